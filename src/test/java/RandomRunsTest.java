import java.lang.reflect.InvocationTargetException;
import java.lang.reflect.Method;
import java.lang.reflect.Modifier;
import java.util.ArrayList;
import java.util.Comparator;
import java.util.List;
import java.util.Random;

/** Random runs of calls, of which every answer is compared with that of the slow line. The random numbers are always the same. */
public final class RandomRunsTest {
    private static final int RUNS = 600;
    private static final int CALLS = 512;

    private static final List<Method> METHODS = new ArrayList<>();
    private static Random random;

    public static void main(String[] args) throws Exception {
        for (Method method : PolledLine.class.getDeclaredMethods()) {
            if (Modifier.isPublic(method.getModifiers())) METHODS.add(method);
        }
        METHODS.sort(Comparator.comparing(Method::getName));
        for (int run = 0; run < RUNS; run++) {
            random = new Random(run);
            if (!oneRun(run)) break;
        }
        Check.end();
    }

    private static boolean oneRun(int run) throws Exception {
        PolledLine line = new PolledLine();
        SlowLine slow = new SlowLine();
        if (random.nextInt(10) > 0 && !both(run, line, slow, setup(), "loadLine")) return false;
        int calls = CALLS - 40;
        while (calls-- > 0) {
            int dice = random.nextInt(100);
            boolean same;
            if (dice < 22) {
                same = same(run, line, slow, method("run"), new Object[] {1 + random.nextInt(random.nextInt(30) == 0 ? 100 : 3)});
            } else if (dice < 31) {
                same = same(run, line, slow, method("post"), new Object[] {who(line), who(line), 1 + random.nextInt(20)});
            } else if (dice < 35) {
                same = both(run, line, slow, script(line), "playScript");
            } else if (dice == 40 && random.nextInt(2) == 0) {
                same = both(run, line, slow, setup(), "loadLine");
            } else {
                Method method = METHODS.get(random.nextInt(METHODS.size()));
                boolean rare = method.getName().endsWith("State") || method.getName().equals("loadLine") || method.getName().equals("kill");
                if (rare && random.nextInt(4) > 0) continue;
                same = same(run, line, slow, method, arguments(method));
            }
            if (!same) return false;
        }
        return true;
    }

    private static int who(PolledLine line) {
        return random.nextInt(line.count(0) + 1) - 1;
    }

    private static Method method(String name) {
        for (Method method : METHODS) if (method.getName().equals(name)) return method;
        throw new IllegalStateException(name);
    }

    private static Object[] arguments(Method method) {
        Object[] arguments = new Object[method.getParameterCount()];
        for (int i = 0; i < arguments.length; i++) {
            int dice = random.nextInt(40);
            arguments[i] = dice == 0 ? random.nextInt() : dice == 1 ? Integer.MIN_VALUE : dice == 2 ? Integer.MAX_VALUE
                : dice < 30 ? random.nextInt(6) : dice < 35 ? random.nextInt(21) - 1 : random.nextInt(110) - 5;
        }
        return arguments;
    }

    private static boolean both(int run, PolledLine line, SlowLine slow, String text, String method) throws Exception {
        line.truncateInput(0);
        slow.truncateInput(0);
        Check.feed(line, text);
        for (int at = 0; at < text.length(); at += 20) {
            int[] words = new int[5];
            for (int i = 0; i < 20; i++) words[i / 4] = words[i / 4] << 8 | (at + i < text.length() ? text.charAt(at + i) : ' ');
            slow.appendInput(words[0], words[1], words[2], words[3], words[4]);
        }
        slow.truncateInput(text.length());
        if (same(run, line, slow, method(method), new Object[0])) return true;
        System.out.println("the text was '" + text + "'");
        return false;
    }

    private static boolean same(int run, PolledLine line, SlowLine slow, Method method, Object[] arguments) throws Exception {
        Object got = answer(line, method, arguments);
        Object want = answer(slow, SlowLine.class.getMethod(method.getName(), method.getParameterTypes()), arguments);
        String call = "run " + run + ": " + method.getName() + java.util.Arrays.toString(arguments);
        Check.due(call, got, want);
        boolean same = want.equals(got);
        if (same) {
            String facts = PolledLineFacts.of(slow);
            same = facts.equals(PolledLineFacts.of(line)) && line.count(12) == slow.count(12);
            Check.due(call + ", then all that can be asked for", PolledLineFacts.of(line) + line.count(12), facts + slow.count(12));
        }
        same &= line.errorCode() == slow.errorCode() && line.errorOffset() == slow.errorOffset();
        if (!same) Check.due(call + ", then the error", line.errorCode() + " at " + line.errorOffset(), slow.errorCode() + " at " + slow.errorOffset());
        return same;
    }

    private static Object answer(Object object, Method method, Object[] arguments) throws Exception {
        try {
            return method.invoke(object, arguments);
        } catch (InvocationTargetException e) {
            return e.getCause().getClass();
        }
    }

    // ---- texts: mostly right, sometimes broken at one place ----

    private static String number(int low, int high) {
        int n = random.nextInt(60) == 0 ? high + 1 : low + random.nextInt(high - low + 1);
        return (random.nextInt(10) == 0 ? "0" : "") + n;
    }

    private static String broken(String text) {
        if (random.nextInt(5) > 0 || text.isEmpty()) return cut(text);
        String bad = "; 0 19 12345 a list host terminal post A ~ line burst 1 noise 1 1 add abcdefg";
        String[] words = bad.split(" ");
        int at = random.nextInt(text.length() + 1);
        int to = Math.min(text.length(), at + random.nextInt(3));
        return cut(text.substring(0, at) + words[random.nextInt(words.length)] + text.substring(to));
    }

    private static String cut(String text) {
        return text.length() > 600 ? text.substring(0, 600) : text;
    }

    private static String setup() {
        String[] names = {"a", "bob", "delay", "zzzzzz", "print", "list", "h", "hosts", "k"};
        int size = 1 + random.nextInt(random.nextInt(20) == 0 ? 9 : 8);
        StringBuilder text = new StringBuilder();
        for (int i = 0; i < size; i++) {
            text.append("terminal ").append(names[random.nextInt(60) == 0 ? 0 : i]);
            if (random.nextBoolean()) text.append(" delay ").append(number(1, 9));
            if (random.nextBoolean()) text.append("\nroom ").append(number(1, 4));
            if (random.nextBoolean()) text.append(" print ").append(number(0, 30));
            text.append(random.nextBoolean() ? ";" : " ; ");
        }
        if (random.nextInt(8) > 0) {
            text.append("list");
            int places = 1 + random.nextInt(random.nextInt(10) == 0 ? 17 : 10);
            for (int i = 0; i < places; i++) text.append(' ').append(names[random.nextInt(60) == 0 ? 8 : random.nextInt(size)]);
            text.append(";");
        }
        if (random.nextBoolean()) {
            text.append("line ").append(number(1, 20)).append(' ').append(number(1, 5)).append(' ').append(number(1, 5));
            text.append(' ').append(number(0, 20)).append(";");
        }
        if (random.nextBoolean()) text.append("burst ").append(number(0, 5)).append(";");
        if (random.nextInt(3) > 0) text.append("noise ").append(number(0, random.nextBoolean() ? 25 : 99)).append(' ').append(random.nextInt(10000)).append(";");
        return broken(text.toString());
    }

    private static String name(PolledLine line, boolean orHost) {
        if (random.nextInt(80) == 0) return "nobody";
        int terminal = orHost ? who(line) : random.nextInt(line.count(0));
        if (terminal < 0) return "host";
        StringBuilder name = new StringBuilder();
        for (int i = 0; line.nameLetter(terminal, i) > 0; i++) name.append((char) ('a' + line.nameLetter(terminal, i) - 1));
        return name.toString();
    }

    private static String script(PolledLine line) {
        int size = random.nextInt(random.nextInt(8) == 0 ? 33 : 6);
        StringBuilder text = new StringBuilder();
        for (int i = 0; i < size; i++) {
            switch (random.nextInt(6)) {
                case 0: text.append("post ").append(name(line, true)).append(' ').append(name(line, true)).append(' ').append(number(1, 20)); break;
                case 1: text.append("kill ").append(name(line, false)); break;
                case 2: text.append("wake ").append(name(line, false)); break;
                case 3: text.append("turns ").append(number(1, random.nextInt(8) == 0 ? 50 : 3)); break;
                case 4: text.append("add ").append(name(line, false)); break;
                default: text.append("drop ").append(number(0, random.nextBoolean() ? 15 : 2)); break;
            }
            text.append(random.nextBoolean() ? ";" : ";\n ");
        }
        return broken(text.toString());
    }
}
