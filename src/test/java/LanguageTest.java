import java.lang.management.ManagementFactory;
import java.lang.reflect.Constructor;
import java.lang.reflect.Field;
import java.lang.reflect.Method;
import java.lang.reflect.Modifier;
import java.nio.file.Files;
import java.nio.file.Path;
import java.util.Arrays;
import java.util.Set;
import java.util.TreeSet;
import java.util.regex.Matcher;
import java.util.regex.Pattern;

/** The face, the rules of LANGUAGE.md that can be looked up, and how little the calls make. */
public final class LanguageTest {
    private static final Path SOURCE = Path.of("src/main/java/FourInks.java");
    private static final Path DOCUMENT = Path.of("../shared/DOC.md");

    public static void main(String[] args) throws Exception {
        face();
        classes();
        words();
        imports();
        lengths();
        room();
        Checks.finish();
    }

    private static void same(String what, Set<String> got, Set<String> want) {
        if (!got.equals(want)) {
            System.out.println(what + ": " + got + " but due is " + want);
        }
        Checks.due(what, got.equals(want) ? 1 : 0, 1);
    }

    private static String signature(String name, Class<?> result, Class<?>[] parameters) {
        StringBuilder text = new StringBuilder(result.getName() + " " + name);
        for (Class<?> parameter : parameters) {
            text.append(" ").append(parameter.getName());
        }
        return text.toString();
    }

    private static void face() throws Exception {
        Set<String> due = new TreeSet<>();
        Set<String> names = new TreeSet<>();
        Matcher told = Pattern.compile("\n    public (int|long) (\\w+)\\((.*)\\);").matcher(Files.readString(DOCUMENT));
        while (told.find()) {
            String parameters = told.group(3).replaceAll("(\\w+) \\w+,? ?", " $1");
            due.add(told.group(1) + " " + told.group(2) + parameters);
            names.add(told.group(2));
        }
        Checks.due("methods of the document", due.size(), 31);
        Set<String> got = new TreeSet<>();
        for (Method method : FourInks.class.getDeclaredMethods()) {
            if (Modifier.isPrivate(method.getModifiers())) {
                Checks.due("a private name that isn't public: " + method, names.contains(method.getName()) ? 1 : 0, 0);
            } else {
                Checks.due("public: " + method, Modifier.isPublic(method.getModifiers()) ? 1 : 0, 1);
                got.add(signature(method.getName(), method.getReturnType(), method.getParameterTypes()));
            }
        }
        same("the face", got, due);
        Set<String> open = new TreeSet<>();
        for (Field field : FourInks.class.getDeclaredFields()) {
            boolean isPrivate = Modifier.isPrivate(field.getModifiers());
            open.addAll(isPrivate ? Set.of() : Set.of(Modifier.toString(field.getModifiers()) + " " + field.getName()));
        }
        same("constants", open, Set.of("public static final FULL", "public static final NONE",
            "public static final RANGE", "public static final STATE"));
        Constructor<?>[] constructors = FourInks.class.getDeclaredConstructors();
        Checks.due("constructors", constructors.length, 1);
        Checks.due("its parameters", constructors[0].getParameterCount(), 0);
        Checks.due("its class is public and final", FourInks.class.getModifiers(), Modifier.PUBLIC | Modifier.FINAL);
    }

    private static void classes() {
        Class<?>[] inside = FourInks.class.getDeclaredClasses();
        Checks.due("twelve classes at most: " + Arrays.toString(inside), inside.length < 12 ? 1 : 0, 1);
        for (Class<?> one : inside) {
            Checks.due("static " + one, Modifier.isStatic(one.getModifiers()) ? 1 : 0, 1);
            Checks.due("no class deeper inside " + one, one.getDeclaredClasses().length, 0);
            looked(one);
        }
        looked(FourInks.class);
    }

    private static void looked(Class<?> one) {
        int fields = 0;
        for (Field field : one.getDeclaredFields()) {
            boolean isStatic = Modifier.isStatic(field.getModifiers());
            fields += isStatic ? 0 : 1;
            Checks.due("static fields are final: " + field, isStatic && !Modifier.isFinal(field.getModifiers()) ? 1 : 0, 0);
        }
        Checks.due("twenty fields at most in " + one, fields <= 20 ? 1 : 0, 1);
        for (Method method : one.getDeclaredMethods()) {
            Checks.due("seven parameters at most: " + method, method.getParameterCount() <= 7 ? 1 : 0, 1);
        }
    }

    /** The source without comments and without what stands in quotes. */
    private static String code() throws Exception {
        return Files.readString(SOURCE).replaceAll("(?s)/\\*.*?\\*/", "").replaceAll("//[^\n]*", "")
            .replaceAll("\"[^\"\n]*\"", "\"\"");
    }

    private static void words() throws Exception {
        String code = code();
        String[] never = {"throw", "throws", "try", "catch", "synchronized", "assert", "protected", "package", "equals",
            "hashCode", "toString", "Object", "System\\.out", "MAX_VALUE", "MIN_VALUE", "\\w+Exact", "volatile",
            "native", "strictfp", "var", "Random", "Thread", "->", "::"};
        for (String word : never) {
            Matcher found = Pattern.compile("(?<!\\w)" + word + "(?!\\w)").matcher(code);
            Checks.due("no " + word, found.find() ? 1 : 0, 0);
        }
    }

    private static void imports() throws Exception {
        String code = code();
        Set<String> imports = new TreeSet<>();
        Matcher imported = Pattern.compile("\nimport ([^;]*);").matcher("\n" + code);
        while (imported.find()) {
            imports.add(imported.group(1));
        }
        same("imports", imports, Set.of("java.util.Arrays"));
    }

    /** Methods of sixty lines at most: each ends at a brace as deep as the line that begins it. */
    private static void lengths() throws Exception {
        String[] lines = Files.readString(SOURCE).split("\n");
        int methods = 0;
        for (int from = 0; from < lines.length; from++) {
            Matcher begins = Pattern.compile("^( {4,8})(?! )(?!.*\\bclass\\b).*\\) \\{$").matcher(lines[from]);
            if (begins.find()) {
                int to = from;
                while (!lines[to].equals(begins.group(1) + "}")) {
                    to++;
                }
                methods++;
                Checks.due("the length of" + lines[from], to - from < 60 ? 1 : 0, 1);
            }
        }
        Checks.due("methods were found", methods > 100 ? 1 : 0, 1);
        for (int i = 0; i < lines.length; i++) {
            Checks.due("a short line " + (i + 1), lines[i].length() <= 130 ? 1 : 0, 1);
        }
    }

    /** The dearest calls of a whole run make nothing beside the object itself. */
    private static void room() {
        var thread = (com.sun.management.ThreadMXBean) ManagementFactory.getThreadMXBean();
        if (!thread.isThreadAllocatedMemorySupported()) {
            return;
        }
        // once ahead of counting, since the machine makes things of its own as classes are first used
        dearRun(new FourInks());
        long ahead = thread.getCurrentThreadAllocatedBytes();
        FourInks x = new FourInks();
        long made = thread.getCurrentThreadAllocatedBytes() - ahead;
        Checks.due("a new object is small: " + made, made < 20_000 ? 1 : 0, 1);
        ahead = thread.getCurrentThreadAllocatedBytes();
        dearRun(x);
        made = thread.getCurrentThreadAllocatedBytes() - ahead;
        Checks.due("calls make next to nothing: " + made, made < 100_000 ? 1 : 0, 1);
    }

    private static void dearRun(FourInks x) {
        for (int i = 0; i < 28; i++) {
            x.end(0);
            x.feed(0x626f7820, 0x72656420, 0x31203120, 0x39203920, 0x3b202020);
            x.job();
            x.best(0, 1, 2);
            x.fit(0, 999, 0);
            x.sure(1, 999);
            x.mend(1, 9, 9, 9, 9);
            x.setting(0);
            x.order(0);
            x.sign();
            x.held(0, 6, 12, 24);
            x.cost(8, 6, 999, 999, 5, 5);
            x.feed(0x31203120, 0x72656420, 0x31203120, 0x39203920, 0x3b202020);
            x.end(4);
            x.tissue(1, 9, 1);
            x.feed(0x31203120, 0x72656420, 0x31203120, 0x39203920, 0x3b202020);
            x.end(4);
            x.causes(1);
        }
    }
}
