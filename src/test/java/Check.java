/** Counts what is not as due, and helps tests to feed texts. */
final class Check {
    interface Call {
        Object make();
    }

    private static int wrong = 0;

    private Check() {
    }

    static void due(String what, Object got, Object want) {
        if (!want.equals(got)) {
            wrong++;
            System.out.println(what + " answered " + got + ", due is " + want);
        }
    }

    /** The call must throw just that exception, and change nothing that can be asked for. */
    static void throwsOnly(PolledLine line, String what, Class<?> exception, Call call) {
        String before = PolledLineFacts.withTheRest(line);
        Object got;
        try {
            got = call.make();
        } catch (RuntimeException e) {
            got = e.getClass();
        }
        due(what, got, exception);
        due(what + ": what can be asked for behind it", PolledLineFacts.withTheRest(line), before);
    }

    static void outOfBounds(PolledLine line, String what, Call call) {
        throwsOnly(line, what, IndexOutOfBoundsException.class, call);
    }

    static void badArgument(PolledLine line, String what, Call call) {
        throwsOnly(line, what, IllegalArgumentException.class, call);
    }

    /** Puts a text into an empty input buffer. */
    static void feed(PolledLine line, String text) {
        for (int at = 0; at < text.length(); at += 20) {
            line.appendInput(word(text, at), word(text, at + 4), word(text, at + 8), word(text, at + 12), word(text, at + 16));
        }
        due("truncateInput to the text's length", line.truncateInput(text.length()), true);
    }

    private static int word(String text, int at) {
        int word = 0;
        for (int i = at; i < at + 4; i++) {
            word = word << 8 | (i < text.length() ? text.charAt(i) : ' ');
        }
        return word;
    }

    static PolledLine loaded(String text) {
        PolledLine line = new PolledLine();
        feed(line, text);
        if (line.loadLine() < 1) {
            due("loadLine of " + text, line.errorCode() + " at " + line.errorOffset(), "right");
        }
        return line;
    }

    static void loadFails(String text, int code, int offset) {
        PolledLine line = new PolledLine();
        String before = PolledLineFacts.of(line);
        feed(line, text);
        due("loadLine of '" + text + "'", line.loadLine(), -1);
        due("error of '" + text + "'", line.errorCode() + " at " + line.errorOffset(), code + " at " + offset);
        due("the line behind '" + text + "'", PolledLineFacts.of(line), before);
        due("the input behind '" + text + "'", line.truncateInput(1), false);
    }

    static int play(PolledLine line, String text) {
        feed(line, text);
        return line.playScript();
    }

    static void playFails(PolledLine line, String text, int code, int offset) {
        String before = PolledLineFacts.of(line);
        due("playScript of '" + text + "'", play(line, text), -1);
        due("error of '" + text + "'", line.errorCode() + " at " + line.errorOffset(), code + " at " + offset);
        due("the line behind '" + text + "'", PolledLineFacts.of(line), before);
        due("the input behind '" + text + "'", line.truncateInput(1), false);
    }

    static String output(PolledLine line) {
        StringBuilder text = new StringBuilder();
        for (int i = 0; line.outputByte(i) != -1; i++) {
            text.append((char) line.outputByte(i));
        }
        return text.toString();
    }

    static String counts(PolledLine line) {
        StringBuilder text = new StringBuilder();
        for (int what = 0; what <= 12; what++) {
            text.append(line.count(what)).append(' ');
        }
        return text.toString();
    }

    static String accounts(PolledLine line) {
        StringBuilder text = new StringBuilder();
        for (int what = 0; what <= 12; what++) {
            text.append(line.account(what)).append(' ');
        }
        return text.toString();
    }

    static String turn(PolledLine line, int index) {
        StringBuilder text = new StringBuilder();
        for (int what = 0; what <= 4; what++) {
            text.append(line.turn(index, what)).append(' ');
        }
        return text.toString();
    }

    static String message(PolledLine line, int message) {
        StringBuilder text = new StringBuilder();
        for (int what = 0; what <= 7; what++) {
            text.append(line.message(message, what)).append(' ');
        }
        return text.toString();
    }

    /** A statement with a SEED with which just the things with an x are garbled, of the first ones that are sent. */
    static String noise(int noise, String pattern) {
        for (int first = 0; first <= 9999; first++) {
            int seed = first;
            boolean fits = true;
            for (int i = 0; i < pattern.length() && fits; i++) {
                seed = (75 * seed + 74) % 65537;
                fits = seed % 100 < noise == (pattern.charAt(i) == 'x');
            }
            if (fits) {
                return "noise " + noise + " " + first + ";";
            }
        }
        throw new IllegalArgumentException(pattern);
    }

    static void end() {
        if (wrong > 0) {
            System.out.println(wrong + " answers are not as due");
            System.exit(1);
        }
    }
}
