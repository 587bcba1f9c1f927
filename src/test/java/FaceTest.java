import java.io.IOException;
import java.lang.reflect.Constructor;
import java.lang.reflect.Field;
import java.lang.reflect.InvocationTargetException;
import java.lang.reflect.Member;
import java.lang.reflect.Method;
import java.lang.reflect.Modifier;
import java.nio.charset.StandardCharsets;
import java.nio.file.Files;
import java.nio.file.Path;
import java.util.ArrayList;
import java.util.Arrays;
import java.util.List;
import java.util.TreeSet;
import java.util.regex.Matcher;
import java.util.regex.Pattern;

/** The public face, and what of ../shared/LANGUAGE.md can be looked for. It runs in the project's directory. */
public final class FaceTest {
    private static final Path DOCUMENT = Path.of("../shared/DOC.md");
    private static final Path SOURCE = Path.of("src/main/java/PolledLine.java");

    public static void main(String[] args) throws IOException, ReflectiveOperationException {
        faceIsThatOfTheDocument();
        allElseIsPrivate();
        constants();
        classes();
        source();
        indicesAreLookedAt();
        namedTests();
        Check.end();
    }

    /** The lines of the document's face, as reflection would tell them. */
    private static void faceIsThatOfTheDocument() throws IOException {
        TreeSet<String> want = new TreeSet<>();
        Matcher matcher = Pattern.compile("(?m)^    public (?!static)(?:(\\w+) )?(\\w+)\\(([^)]*)\\)( throws ([\\w, ]+))?;")
            .matcher(Files.readString(DOCUMENT, StandardCharsets.UTF_8));
        while (matcher.find()) {
            String parameters = matcher.group(3).replaceAll("(\\w+) \\w+", "$1");
            String thrown = matcher.group(5) == null ? "" : matcher.group(5);
            want.add(matcher.group(1) + " " + matcher.group(2) + "(" + parameters + ") " + sorted(thrown.split(", ")));
        }
        TreeSet<String> got = new TreeSet<>();
        for (Method method : PolledLine.class.getDeclaredMethods()) {
            if (Modifier.isPublic(method.getModifiers())) {
                got.add(method.getReturnType() + " " + method.getName() + "(" + names(method.getParameterTypes()) + ") "
                    + sorted(names(method.getExceptionTypes()).split(", ")));
            }
        }
        got.add("null PolledLine() " + sorted(new String[] {""}));
        Check.due("the face", got, want);
        Check.due("methods and constructor of the face", want.size(), 44);
        Check.due("constructors", PolledLine.class.getConstructors().length, 1);
        Check.due("the class is final", Modifier.isFinal(PolledLine.class.getModifiers()), true);
    }

    private static String sorted(String[] names) {
        Arrays.sort(names);
        return Arrays.toString(names);
    }

    private static String names(Class<?>[] types) {
        List<String> names = new ArrayList<>();
        for (Class<?> type : types) {
            names.add(type.getSimpleName());
        }
        return String.join(", ", names);
    }

    private static void allElseIsPrivate() {
        List<Member> members = new ArrayList<>(Arrays.asList(PolledLine.class.getDeclaredFields()));
        members.addAll(Arrays.asList(PolledLine.class.getDeclaredMethods()));
        TreeSet<String> publicNames = new TreeSet<>();
        for (Method method : PolledLine.class.getMethods()) {
            publicNames.add(method.getName());
        }
        for (Member member : members) {
            boolean isPublic = Modifier.isPublic(member.getModifiers());
            Check.due(member + " is public or private", isPublic || Modifier.isPrivate(member.getModifiers()), true);
            if (!isPublic && member instanceof Method) {
                Check.due(member + " has a name of its own", publicNames.contains(member.getName()), false);
            }
        }
    }

    private static void constants() {
        Check.due("constants", PolledLine.NONE + " " + PolledLine.NO_ERROR + " " + PolledLine.SYNTAX + " " + PolledLine.OUT_OF_RANGE + " "
            + PolledLine.UNKNOWN + " " + PolledLine.REPEATED + " " + PolledLine.TOO_MANY, "-1 0 1 2 3 4 5");
        int size = 0;
        for (Field field : PolledLine.class.getFields()) {
            size += Modifier.isStatic(field.getModifiers()) && field.getType() == int.class ? 1 : 0;
        }
        Check.due("public constants", size + " " + PolledLine.class.getFields().length, "7 7");
    }

    private static void classes() {
        List<Class<?>> classes = new ArrayList<>(Arrays.asList(PolledLine.class.getDeclaredClasses()));
        classes.add(PolledLine.class);
        Check.due("some twelve classes", classes.size() <= 13, true);
        for (Class<?> type : classes) {
            int fields = 0;
            for (Field field : type.getDeclaredFields()) {
                if (Modifier.isStatic(field.getModifiers())) {
                    Check.due(field + " is final", Modifier.isFinal(field.getModifiers()), true);
                } else {
                    fields++;
                }
            }
            Check.due(type + " has at most twenty fields", fields <= 20, true);
            for (Method method : type.getDeclaredMethods()) {
                Check.due(method + " takes at most seven parameters", method.getParameterCount() <= 7, true);
            }
            if (type != PolledLine.class) {
                Check.due(type + " is private and static", type.getModifiers() & (Modifier.PRIVATE | Modifier.STATIC),
                    Modifier.PRIVATE | Modifier.STATIC);
            }
        }
    }

    private static void source() throws IOException {
        String text = Files.readString(SOURCE, StandardCharsets.US_ASCII);
        String code = text.replaceAll("(?s)/\\*.*?\\*/", "").replaceAll("//[^\n]*", "").replaceAll("\"[^\"]*\"", "\"\"");
        String[] forbidden = {"\\bsynchronized\\b", "\\bassert\\b", "\\bfinally\\b", "\\bcatch\\b", "\\btry\\b", "->", "::", "\\bpackage\\b",
            "\\bnative\\b", "\\bthis\\s*\\(", "\\bhashCode\\b", "\\btoString\\b", "\\bgetMessage\\b", "Exact\\b", "\\bString\\s*\\.", "\\bvar\\b"};
        for (String pattern : forbidden) {
            Matcher matcher = Pattern.compile(pattern).matcher(code);
            Check.due("'" + pattern + "' in the source", matcher.find(), false);
        }
        Matcher imports = Pattern.compile("(?m)^import ([^;]*);").matcher(code);
        while (imports.find()) {
            Check.due("import", imports.group(1), "java.util.NoSuchElementException");
        }
        Matcher thrown = Pattern.compile("\\bthrow\\b[^;]*;").matcher(code);
        while (thrown.find()) {
            Check.due(thrown.group() + " is written out", thrown.group().matches("throw new \\w+\\(\\);"), true);
        }
        Matcher systems = Pattern.compile("\\b(System|Math|Arrays|Integer|Long)\\.(\\w+)").matcher(code);
        while (systems.find()) {
            Check.due("library", systems.group(), "System.arraycopy");
        }
    }

    /** Rule 7: what is kept by terminals looks at a number before it is an index, whoever asks with it. */
    private static void indicesAreLookedAt() throws ReflectiveOperationException {
        int[] wrong = {Integer.MIN_VALUE, -200, 200, Integer.MAX_VALUE};
        String[] asked = {"Rows.sizeOf", "Rows.firstOf", "Rows.removeFirst", "Stations.countOften", "Stations.oftenOf"};
        for (String name : asked) {
            for (int number : wrong) {
                Check.due(name + "(0, " + number + ") throws", throwsWith(name, 0, number), false);
                Check.due(name + "(" + number + ", 7) throws", throwsWith(name, number, 7), false);
            }
        }
    }

    private static boolean throwsWith(String name, int first, int second) throws ReflectiveOperationException {
        Class<?> type = Class.forName("PolledLine$" + name.substring(0, name.indexOf('.')));
        Constructor<?> constructor = type.getDeclaredConstructor();
        Method method = type.getDeclaredMethod(name.substring(name.indexOf('.') + 1), int.class, int.class);
        constructor.setAccessible(true);
        method.setAccessible(true);
        try {
            method.invoke(constructor.newInstance(), first, second);
            return false;
        } catch (InvocationTargetException e) {
            return true;
        }
    }

    /** Each test that the table of boundary cases names must be there, and be called; each boundary test must be in the table. */
    private static void namedTests() throws IOException {
        TreeSet<String> named = new TreeSet<>();
        Matcher names = Pattern.compile("`(\\w+Test)\\.(\\w+)`").matcher(Files.readString(Path.of("src/test/BOUNDARIES.md"), StandardCharsets.UTF_8));
        while (names.find()) {
            named.add(names.group(1) + "." + names.group(2));
        }
        TreeSet<String> called = new TreeSet<>();
        TreeSet<String> boundaryTests = new TreeSet<>();
        String[] tests = {"BoundaryTermsTest", "BoundaryTextsTest", "BoundaryCallsTest", "TextTest", "TurnsTest"};
        for (String test : tests) {
            String text = Files.readString(Path.of("src/test/java/" + test + ".java"), StandardCharsets.UTF_8);
            String main = text.substring(text.indexOf("main("), text.indexOf("Check.end()"));
            Matcher calls = Pattern.compile("(?m)^ +(\\w+)\\(\\);").matcher(main);
            while (calls.find()) {
                called.add(test + "." + calls.group(1));
                if (test.startsWith("Boundary")) {
                    boundaryTests.add(test + "." + calls.group(1));
                }
            }
        }
        for (String test : named) {
            Check.due("the table names " + test + ", which is called", called.contains(test), true);
        }
        for (String test : boundaryTests) {
            Check.due(test + " is in the table", named.contains(test), true);
        }
    }
}
