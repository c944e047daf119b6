import java.io.IOException;
import java.lang.reflect.Constructor;
import java.lang.reflect.Field;
import java.lang.reflect.Member;
import java.lang.reflect.Method;
import java.lang.reflect.Modifier;
import java.nio.file.Files;
import java.nio.file.Path;
import java.util.ArrayList;
import java.util.HashSet;
import java.util.List;
import java.util.Set;
import java.util.TreeSet;
import java.util.regex.Matcher;
import java.util.regex.Pattern;

/** The public face, and those rules of LANGUAGE.md that can be seen in the class or in the text of its file. */
public final class FaceTest {
    private static final String SOURCE = "src/main/java/SkipQuadtree.java";

    private static final List<String> FACE = List.of(
        "int add(int, int, int) throws IOOB IA IS", "int move(int, int, int) throws IOOB IA IS",
        "int remove(int) throws IOOB IS", "int setVelocity(int, int, int) throws IOOB IA IS",
        "int tick(int) throws IA", "int scatter(int, int, int, int) throws IOOB IA",
        "int point(int, int) throws IOOB IA", "int level(int, int) throws IOOB IA",
        "int node(int, int, int) throws IOOB IA", "int child(int, int, int) throws IOOB IA",
        "int search(int, int, boolean, int) throws IA", "int worst(boolean)",
        "int wouldTouch(int, int, int) throws IOOB IA IS", "int open(int, int, int) throws IOOB IA",
        "int next(int) throws IOOB", "int cursor(int, int) throws IOOB IA", "int nearest(int, int, int) throws IA",
        "int within(int, int, int, int) throws IA", "int closest(int) throws IA", "int type(int) throws IA IS",
        "int clearScript()", "int run()", "int time()", "int undo() throws IS", "long digest()");

    private static final String LEFT_OUT = "->|::|static \\{|Exact\\b|\\b(import|package|try|catch|finally|synchronized"
        + "|assert|float|double|Random|System|Thread|Runtime|Object|equals|hashCode|toString|protected)\\b";

    public static void main(String[] args) throws IOException {
        face();
        hidden();
        nested();
        text();
        Check.close("FaceTest");
    }

    private static String shortName(Class<?> thrown) {
        return thrown.getSimpleName().replace("Exception", "").replace("IndexOutOfBounds", "IOOB")
            .replace("IllegalArgument", "IA").replace("IllegalState", "IS");
    }

    private static String told(Method method) {
        List<String> types = new ArrayList<>();
        for (Class<?> type : method.getParameterTypes()) {
            types.add(type.getSimpleName());
        }
        StringBuilder text = new StringBuilder(method.getReturnType().getSimpleName());
        text.append(' ').append(method.getName()).append('(').append(String.join(", ", types)).append(')');
        String mark = " throws ";
        for (Class<?> thrown : method.getExceptionTypes()) {
            text.append(mark).append(shortName(thrown));
            mark = " ";
        }
        return text.toString();
    }

    private static void face() {
        Set<String> found = new TreeSet<>();
        for (Method method : SkipQuadtree.class.getDeclaredMethods()) {
            if (Modifier.isPublic(method.getModifiers())) {
                found.add(told(method));
            }
        }
        Check.same("the public methods", found.toString(), new TreeSet<>(FACE).toString());
        Constructor<?>[] constructors = SkipQuadtree.class.getDeclaredConstructors();
        Check.due("constructors", 1, () -> constructors.length);
        Check.due("parameters of the constructor", 0, () -> constructors[0].getParameterCount());
        Check.same("the class", Modifier.toString(SkipQuadtree.class.getModifiers()), "public final");
    }

    private static void hidden() {
        Set<String> names = new HashSet<>();
        for (String signature : FACE) {
            names.add(signature.substring(signature.indexOf(' ') + 1, signature.indexOf('(')));
        }
        List<Member> members = new ArrayList<>(List.of(SkipQuadtree.class.getDeclaredMethods()));
        members.addAll(List.of(SkipQuadtree.class.getDeclaredFields()));
        for (Member member : members) {
            boolean known = member.getName().equals("NONE") || member instanceof Method && names.contains(member.getName());
            String want = known ? "public" : "private";
            Check.same(member.getName(), Modifier.toString(member.getModifiers()).split(" ")[0], want);
        }
        for (Class<?> inner : SkipQuadtree.class.getDeclaredClasses()) {
            for (Method method : inner.getDeclaredMethods()) {
                String name = method.getName();
                Check.due(name + " of " + inner.getSimpleName() + " bears a public name", 0,
                    () -> names.contains(name) ? 1 : 0);
            }
        }
    }

    private static void nested() {
        Class<?>[] classes = SkipQuadtree.class.getDeclaredClasses();
        Check.due("more than twelve classes", 0, () -> classes.length > 11 ? classes.length : 0);
        for (Class<?> inner : classes) {
            int modifiers = inner.getModifiers();
            boolean fine = Modifier.isStatic(modifiers) && !Modifier.isPublic(modifiers) && !Modifier.isProtected(modifiers);
            Check.due(inner.getSimpleName() + " is static and hidden", 1, () -> fine ? 1 : 0);
            int fields = 0;
            for (Field field : inner.getDeclaredFields()) {
                int kind = field.getModifiers();
                fields += Modifier.isStatic(kind) ? 0 : 1;
                Check.due(field.getName() + " is not static, or final", 1,
                    () -> Modifier.isStatic(kind) && !Modifier.isFinal(kind) ? 0 : 1);
            }
            int count = fields;
            Check.due(inner.getSimpleName() + " has more than twenty fields", 0, () -> count > 20 ? count : 0);
        }
    }

    private static void text() throws IOException {
        Pattern leftOut = Pattern.compile(LEFT_OUT);
        List<String> lines = Files.readAllLines(Path.of(SOURCE));
        int opened = 0;
        for (int k = 0; k < lines.size(); k++) {
            String line = lines.get(k);
            String code = line.trim().startsWith("*") || line.trim().startsWith("/*") ? "" : line.replaceAll("//.*", "");
            String place = SOURCE + ":" + (k + 1);
            Matcher found = leftOut.matcher(code);
            Check.same(place + " has", found.find() ? found.group() : "nothing", "nothing");
            Check.due(place + " has more than 120 signs", 0, () -> line.length() > 120 ? 1 : 0);
            boolean methodStarts = code.matches("( {4}| {8})[a-z].*\\(.*") && !code.trim().matches("(if|for|while|switch|return).*");
            opened = methodStarts ? k : opened;
            int length = k - opened;
            boolean methodEnds = code.matches("( {4}| {8})\\}");
            Check.due(place + " ends a method of more than sixty lines", 0, () -> methodEnds && length > 60 ? length : 0);
        }
    }
}
