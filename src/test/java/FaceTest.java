import java.lang.reflect.Constructor;
import java.lang.reflect.Field;
import java.lang.reflect.Method;
import java.lang.reflect.Modifier;
import java.nio.file.Files;
import java.nio.file.Path;
import java.util.ArrayList;
import java.util.Arrays;
import java.util.List;
import java.util.TreeSet;
import java.util.regex.Matcher;
import java.util.regex.Pattern;
import java.util.stream.Collectors;

/** The document's face, and those rules of LANGUAGE.md that can be seen from the source and the class. */
public final class FaceTest {
    private static final String[] FACE = {
        "int feed(int,int,int,int,int)", "boolean end(int)", "int page()", "int query()", "int fault()",
        "int tell(int,int)", "int sign(int)", "int signOf(int)", "int word(int,int)", "int sentence(int,int)",
        "int item(int,int)", "boolean fits(int,int,int)", "int match(int,int)", "int window(int,int,int)",
        "int least(int,int)", "int most(int)", "int widest(int,int)", "int cut(int,int,int)", "int set(int,int)",
        "int common(int,int)", "int step(int)", "int choice(boolean)", "int take(boolean)", "int choose(int)",
        "int drop(int)", "int exchange(int)", "int trade()", "int rank(int)", "int need(int)", "int loss(int)",
        "int quote(int)", "int write(int)", "int octet(int)", "int marks(boolean)", "int count(int)"};

    private static final String[] THROWS = {
        "query: IllegalArgumentException", "tell: NoSuchElementException,IllegalArgumentException",
        "word: IndexOutOfBoundsException,NoSuchElementException",
        "sentence: IndexOutOfBoundsException,NoSuchElementException",
        "item: IndexOutOfBoundsException,NoSuchElementException", "fits: IndexOutOfBoundsException",
        "match: IndexOutOfBoundsException,NoSuchElementException",
        "window: NoSuchElementException,IllegalArgumentException",
        "least: NoSuchElementException,IllegalArgumentException", "most: IllegalArgumentException",
        "widest: NoSuchElementException,IllegalArgumentException",
        "cut: IndexOutOfBoundsException,NoSuchElementException,IllegalArgumentException",
        "set: NoSuchElementException,IllegalArgumentException", "common: IndexOutOfBoundsException",
        "choose: IndexOutOfBoundsException,IllegalStateException",
        "drop: IndexOutOfBoundsException,IllegalStateException", "exchange: NoSuchElementException",
        "trade: IllegalStateException", "need: IllegalArgumentException", "loss: IndexOutOfBoundsException",
        "quote: IllegalArgumentException", "write: IllegalArgumentException"};

    // What the class has no use for, and the rules leave out.
    private static final String[] OUTSIDE = {"\\btry\\b", "\\bcatch\\b", "\\bfinally\\b", "->", "::", "\\bsynchronized\\b",
        "\\bassert\\b", "\\bprotected\\b", "\\bstatic\\s*\\{", "\\bSystem\\.(?!arraycopy)", "\\bObject\\b",
        "\\bdouble\\b", "\\bfloat\\b", "\\bvar\\b", "Exact\\b", "\\bvolatile\\b", "@", "\\bString\\.", "\\[\\]\\s*\\["};

    public static void main(String[] args) throws Exception {
        face();
        nestedClasses();
        source();
        Check.finish();
    }

    private static String types(Class<?>[] types) {
        return Arrays.stream(types).map(Class::getSimpleName).collect(Collectors.joining(","));
    }

    private static void face() {
        Class<?> face = PassagePicker.class;
        Check.equal("the class", Modifier.toString(face.getModifiers()), "public final");
        TreeSet<String> open = new TreeSet<>();
        TreeSet<String> closed = new TreeSet<>();
        TreeSet<String> thrown = new TreeSet<>();
        for (Method method : face.getDeclaredMethods()) {
            String name = method.getReturnType().getSimpleName() + " " + method.getName()
                    + "(" + types(method.getParameterTypes()) + ")";
            if (Modifier.isPrivate(method.getModifiers())) {
                closed.add(method.getName());
            } else {
                Check.equal(name, Modifier.toString(method.getModifiers()), "public");
                open.add(name);
                String exceptions = types(method.getExceptionTypes());
                thrown.add(exceptions.isEmpty() ? "" : method.getName() + ": " + exceptions);
            }
        }
        Check.equal("the methods", open.toString(), new TreeSet<>(List.of(FACE)).toString());
        thrown.remove("");
        Check.equal("what they throw", thrown.toString(), new TreeSet<>(List.of(THROWS)).toString());
        for (String name : FACE) {
            Check.no("a private " + name, closed.contains(name.replaceAll(".* (\\w+)\\(.*", "$1")));
        }
        Constructor<?>[] made = face.getDeclaredConstructors();
        Check.equal("constructors", made.length, 1);
        Check.equal("the constructor", made[0].toString(), "public PassagePicker()");
        for (Field field : face.getDeclaredFields()) {
            boolean due = field.getName().equals("NONE");
            Check.equal(field.getName() + " is public", Modifier.isPublic(field.getModifiers()) ? 1 : 0, due ? 1 : 0);
            Check.yes(field.getName() + " is private or NONE", due || Modifier.isPrivate(field.getModifiers()));
        }
    }

    private static void nestedClasses() {
        List<Class<?>> all = new ArrayList<>(List.of(PassagePicker.class.getDeclaredClasses()));
        Check.yes("twelve classes at most", all.size() + 1 <= 12);
        for (Class<?> nested : all) {
            Check.yes(nested.getName() + " is static", Modifier.isStatic(nested.getModifiers()));
            Check.yes(nested.getName() + " is private", Modifier.isPrivate(nested.getModifiers()));
        }
        all.add(PassagePicker.class);
        for (Class<?> each : all) {
            long fields = Arrays.stream(each.getDeclaredFields())
                    .filter(field -> !Modifier.isStatic(field.getModifiers())).count();
            Check.yes(each.getName() + " has twenty fields at most", fields <= 20);
            for (Field field : each.getDeclaredFields()) {
                int modifiers = field.getModifiers();
                Check.yes(field + " is final if static", !Modifier.isStatic(modifiers) || Modifier.isFinal(modifiers));
            }
            for (Method method : each.getDeclaredMethods()) {
                Check.yes(method + " takes seven at most", method.getParameterCount() <= 7);
            }
        }
    }

    private static void source() throws Exception {
        String text = Files.readString(Path.of("src/main/java/PassagePicker.java"));
        Check.yes("signs 1 to 127 alone", text.chars().allMatch(c -> c > 0 && c < 128));
        String code = text.replaceAll("(?s)/\\*.*?\\*/", "").replaceAll("//[^\\n]*", "");
        for (String outside : OUTSIDE) {
            Matcher matcher = Pattern.compile(outside).matcher(code);
            Check.no("outside the rules: " + outside, matcher.find());
        }
        TreeSet<String> thrown = new TreeSet<>();
        Matcher matcher = Pattern.compile("throw new (\\w+)\\(\"[^\"]*\"\\);").matcher(code);
        while (matcher.find()) {
            thrown.add(matcher.group(1));
        }
        Check.equal("throws with a written text", code.split("\\bthrow\\b", -1).length,
                code.split("\\bthrow new \\w+\\(\"[^\"]*\"\\);", -1).length);
        Check.equal("exceptions", thrown.toString(), "[IllegalArgumentException, IllegalStateException, "
                + "IndexOutOfBoundsException, NoSuchElementException]");
        Matcher method = Pattern.compile("(?m)^( +)[\\w\\[\\] ]+\\([^;{}]*\\)[^;{}]*\\{$(?s:.*?)^\\1\\}$").matcher(code);
        while (method.find()) {
            Check.yes("sixty lines at most: " + method.group().strip().split("\n")[0],
                    method.group().split("\n").length <= 60);
            recursion(method.group().strip());
        }
    }

    private static void recursion(String method) {
        Matcher head = Pattern.compile("^[^(]*?(\\w+)\\(").matcher(method);
        boolean calls = head.find() && Pattern.compile("(?<![.\\w])" + head.group(1) + "\\(")
                .matcher(method.substring(head.end())).find();
        Check.yes("private, as it calls itself: " + head.group(), !calls || method.startsWith("private "));
    }
}
