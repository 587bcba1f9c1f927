/** Promises 8 to 20 and 28 to 31: what can be asked. The turns behind the answers are worked out by hand. */
public final class QuestionsTest {
    private static final int[] BAD = {-1, Integer.MIN_VALUE, Integer.MAX_VALUE};

    public static void main(String[] args) {
        countsAndAccounts();
        settings();
        terminals();
        names();
        messages();
        rows();
        places();
        keptTurns();
        whatComesNext();
        oftenCountsNoTries();
        worstAndOften();
        meanTimeAndClearShare();
        Check.end();
    }

    private static void countsAndAccounts() {
        PolledLine line = Check.loaded("terminal a delay 1 print 30;terminal b delay 3 room 1;terminal c;list a b;line 4 2 1 5;noise 0 5;");
        Check.due("counts at first", Check.counts(line), "3 2 0 0 0 5 0 0 0 0 0 0 0 ");
        Check.due("accounts at first", Check.accounts(line), "0 0 0 0 0 0 0 0 0 0 0 0 0 ");
        line.post(0, 1, 2);
        line.post(1, -1, 3);
        line.post(2, 0, 1);
        line.post(-1, 0, 4);
        line.kill(2);
        Check.due("counts with messages", Check.counts(line), "3 2 4 0 0 5 3 1 0 0 0 1 5 ");
        // A select of a, 1 + 1 + 1 + 4 + 1 ticks: its message is in its BUFFER from 7 to 37.
        line.run(1);
        Check.due("counts behind a select", Check.counts(line), "3 2 4 8 1 48597 3 0 1 0 0 1 6 ");
        Check.due("accounts behind a select", Check.accounts(line), "4 0 0 0 0 1 0 0 0 0 0 0 0 ");
        // A poll of a, 1 + 1 + 2 + 1, a select of b, 1 + 3 + 1 + 2 + 1, and a poll of b, 1 + 3 + 3 + 1.
        line.run(3);
        Check.due("TIME", line.count(3), 29);
        Check.due("messages in the states", line.count(6) + " " + line.count(7) + " " + line.count(8) + " " + line.count(9), "1 0 1 2");
        Check.due("accounts behind polls", Check.accounts(line), "14 0 0 2 0 2 0 0 0 0 0 0 0 ");
        line.kill(0);
        // a is polled in 2 tries of 1 + 4 ticks, and is off; b twice, 1 + 3 + 1; c is not in the LIST.
        line.run(3);
        Check.due("accounts behind a miss", Check.accounts(line), "20 0 2 2 0 2 0 2 1 1 0 0 0 ");
        Check.due("TIME behind a miss", line.count(3), 49);
        Check.due("off and dead", line.count(10) + " " + line.count(11), "1 2");
        line.kill(1);
        // b is polled, and is off; idle; a is tested in one try; idle.
        line.run(4);
        Check.due("accounts behind tests", Check.accounts(line), "23 0 2 2 0 2 0 5 2 2 0 1 2 ");
        Check.due("counts behind tests", line.count(3) + " " + line.count(4) + " " + line.count(10) + " " + line.count(11), "66 11 2 3");
        Check.due("changes", line.count(12), 8);
        for (int bad : BAD) {
            Check.badArgument(line, "count(" + bad + ")", () -> line.count(bad));
            Check.badArgument(line, "account(" + bad + ")", () -> line.account(bad));
        }
        Check.badArgument(line, "count(13)", () -> line.count(13));
        Check.badArgument(line, "account(13)", () -> line.account(13));
    }

    private static void settings() {
        PolledLine line = Check.loaded("terminal a;line 11 4 3 17;burst 5;noise 98 7;");
        int[] want = {11, 4, 3, 17, 5, 98};
        for (int i = 0; i < want.length; i++) {
            Check.due("setting " + i, line.setting(i), want[i]);
        }
        for (int bad : BAD) {
            Check.badArgument(line, "setting(" + bad + ")", () -> line.setting(bad));
        }
        Check.badArgument(line, "setting(6)", () -> line.setting(6));
    }

    private static String terminal(PolledLine line, int terminal) {
        StringBuilder text = new StringBuilder();
        for (int what = 0; what <= 13; what++) {
            text.append(line.terminal(terminal, what)).append(' ');
        }
        return text.toString();
    }

    private static void terminals() {
        PolledLine line = Check.loaded("terminal a delay 1 room 3 print 20;terminal b;list b a b;line 5 3 2 0;");
        Check.due("terminal at first", terminal(line, 0), "1 3 20 1 1 0 0 0 0 1 0 0 0 0 ");
        line.post(-1, 0, 1);
        line.post(-1, 0, 1);
        line.post(0, 1, 1);
        line.post(0, 1, 1);
        line.post(0, -1, 1);
        Check.due("terminal with messages", terminal(line, 0), "1 3 20 1 1 0 3 2 0 1 0 0 0 0 ");
        line.run(1);
        Check.due("terminal behind a select", terminal(line, 0), "1 3 20 1 1 0 3 1 1 1 0 1 1 0 ");
        line.run(3);
        Check.due("terminal behind two selects and a poll", terminal(line, 0), "1 3 20 1 1 0 2 0 2 1 1 0 0 1 ");
        Check.due("the other terminal", terminal(line, 1), "2 2 5 1 1 0 0 1 0 2 0 0 0 0 ");
        line.kill(0);
        line.kill(1);
        line.run(3);
        Check.due("a dead terminal that is missed", terminal(line, 0), "1 3 20 0 1 1 2 0 0 1 1 0 0 1 ");
        Check.due("a dead terminal that is off", terminal(line, 1), "2 2 5 0 0 2 0 1 0 2 0 0 0 0 ");
        for (int bad : BAD) {
            Check.outOfBounds(line, "terminal(" + bad + ", 0)", () -> line.terminal(bad, 0));
            Check.badArgument(line, "terminal(0, " + bad + ")", () -> line.terminal(0, bad));
        }
        Check.outOfBounds(line, "terminal(2, 14)", () -> line.terminal(2, 14));
        Check.badArgument(line, "terminal(1, 14)", () -> line.terminal(1, 14));
    }

    private static void names() {
        PolledLine line = Check.loaded("terminal abcxyz;terminal zaz;");
        int[] first = {1, 2, 3, 24, 25, 26};
        for (int i = 0; i < 6; i++) {
            Check.due("nameLetter(0, " + i + ")", line.nameLetter(0, i), first[i]);
        }
        Check.due("nameLetter of zaz", line.nameLetter(1, 0) + " " + line.nameLetter(1, 1) + " " + line.nameLetter(1, 2), "26 1 26");
        int[] none = {3, 4, 6, 7, 32, 64, -1, Integer.MAX_VALUE, Integer.MIN_VALUE};
        for (int index : none) {
            Check.due("nameLetter(1, " + index + ")", line.nameLetter(1, index), 0);
        }
        Check.due("nameLetter(0, 6)", line.nameLetter(0, 6), 0);
        for (int bad : BAD) {
            Check.outOfBounds(line, "nameLetter(" + bad + ", 0)", () -> line.nameLetter(bad, 0));
        }
        Check.outOfBounds(line, "nameLetter(2, 0)", () -> line.nameLetter(2, 0));
    }

    private static void messages() {
        PolledLine line = Check.loaded("terminal a delay 1;terminal b delay 1 print 3;list a b;");
        Check.outOfBounds(line, "message(0, 0) of none", () -> line.message(0, 0));
        line.run(1);
        line.post(0, 1, 20);
        line.post(-1, 0, 2);
        line.post(1, -1, 1);
        Check.due("posted by a terminal", Check.message(line, 0), "0 1 20 0 3 -1 -1 -1 ");
        Check.due("posted by the host", Check.message(line, 1), "-1 0 2 1 3 3 -1 -1 ");
        Check.due("posted for the host", Check.message(line, 2), "1 -1 1 0 3 -1 -1 -1 ");
        // A select of a: 3 + 1 + 1 + 1 + 2 + 1.
        line.run(1);
        Check.due("in the BUFFER", Check.message(line, 1), "-1 0 2 2 3 3 8 -1 ");
        // A poll of b: 9 + 1 + 1 + 1 + 1, and one of a: 13 + 1 + 1 + 20 + 1.
        line.run(1);
        Check.due("taken by the host that it is for", Check.message(line, 2), "1 -1 1 3 3 12 -1 12 ");
        Check.due("delivered at this TIME", Check.message(line, 1), "-1 0 2 3 3 3 8 13 ");
        line.run(1);
        Check.due("in the host's row", Check.message(line, 0), "0 1 20 1 3 35 -1 -1 ");
        // A select of b: 36 + 1 + 1 + 1 + 20 + 1.
        line.run(1);
        Check.due("in the other's BUFFER", Check.message(line, 0), "0 1 20 2 3 35 59 -1 ");
        line.run(1);
        Check.due("delivered", Check.message(line, 0), "0 1 20 3 3 35 59 62 ");
        Check.due("gap", line.gap(), 0);
        for (int bad : BAD) {
            Check.outOfBounds(line, "message(" + bad + ", 0)", () -> line.message(bad, 0));
            Check.badArgument(line, "message(0, " + bad + ")", () -> line.message(0, bad));
        }
        Check.outOfBounds(line, "message(3, 8)", () -> line.message(3, 8));
        Check.badArgument(line, "message(2, 8)", () -> line.message(2, 8));
    }

    private static String row(PolledLine line, int terminal, int row) {
        StringBuilder text = new StringBuilder();
        for (int index = -1; index < 41; index++) {
            int message = line.inRow(terminal, row, index);
            text.append(message == PolledLine.NONE ? "" : message + "@" + index + " ");
        }
        return text.toString();
    }

    private static void rows() {
        PolledLine line = Check.loaded("terminal a room 4 print 30;terminal b;list b;line 5 3 2 0;");
        for (int i = 0; i < 4; i++) {
            line.post(1, 0, 1);
            line.post(-1, 0, 1);
        }
        Check.due("OUT row", row(line, 1, 0), "0@0 2@1 4@2 6@3 ");
        Check.due("host's row", row(line, 0, 1), "1@0 3@1 5@2 7@3 ");
        Check.due("empty rows", row(line, 0, 0) + row(line, 0, 2) + row(line, 1, 1) + row(line, 1, 2), "");
        line.run(4);
        Check.due("OUT row behind turns", row(line, 1, 0), "4@0 6@1 ");
        Check.due("host's row behind turns", row(line, 0, 1), "5@0 7@1 0@2 2@3 ");
        Check.due("BUFFER behind turns", row(line, 0, 2), "1@0 3@1 ");
        Check.due("gap", line.gap(), 0);
        for (int bad : BAD) {
            Check.outOfBounds(line, "inRow(" + bad + ", 0, 0)", () -> line.inRow(bad, 0, 0));
            Check.badArgument(line, "inRow(0, " + bad + ", 0)", () -> line.inRow(0, bad, 0));
            Check.due("inRow(0, 1, " + bad + ")", line.inRow(0, 1, bad), PolledLine.NONE);
        }
        Check.outOfBounds(line, "inRow(2, 3, 0)", () -> line.inRow(2, 3, 0));
        Check.badArgument(line, "inRow(1, 3, 0)", () -> line.inRow(1, 3, 0));
        Check.due("inRow(0, 1, 4)", line.inRow(0, 1, 4), PolledLine.NONE);
    }

    private static void places() {
        PolledLine line = Check.loaded("terminal a;terminal b;terminal c;list c a c b;");
        Check.due("places", line.place(0) + " " + line.place(1) + " " + line.place(2) + " " + line.place(3), "2 0 2 1");
        for (int bad : BAD) {
            Check.outOfBounds(line, "place(" + bad + ")", () -> line.place(bad));
        }
        Check.outOfBounds(line, "place(4)", () -> line.place(4));
        PolledLine none = Check.loaded("terminal a;");
        Check.outOfBounds(none, "place(0) of none", () -> none.place(0));
    }

    private static void keptTurns() {
        PolledLine line = Check.loaded("terminal a room 1 print 30;terminal b;list b;line 5 2 1 10;burst 2;");
        Check.outOfBounds(line, "turn(0, 0) of none", () -> line.turn(0, 0));
        line.post(-1, 0, 1);
        line.post(-1, 0, 1);
        line.post(1, -1, 1);
        line.run(4);
        // Taken: 1 + 2 + 1 + 1 + 1; busy: 1 + 2 + 1; a poll: 1 + 2 + 1 + 1; busy once more.
        Check.due("the latest turn", Check.turn(line, 0), "1 0 4 1 19 ");
        Check.due("a poll", Check.turn(line, 1), "0 1 2 1 15 ");
        Check.due("a busy select", Check.turn(line, 2), "1 0 4 1 10 ");
        Check.due("a select", Check.turn(line, 3), "1 0 2 1 6 ");
        line.kill(0);
        line.kill(1);
        line.run(4);
        Check.due("a missed select", Check.turn(line, 3), "1 0 0 2 31 ");
        Check.due("a missed poll", Check.turn(line, 2), "0 1 0 2 43 ");
        Check.due("idle", Check.turn(line, 1), "3 -1 0 0 44 ");
        Check.due("idle, too", Check.turn(line, 0), "3 -1 0 0 45 ");
        Check.outOfBounds(line, "turn(8, 0)", () -> line.turn(8, 0));
        line.run(2);
        Check.due("a missed test", Check.turn(line, 0), "2 0 0 1 52 ");
        line.wake(1);
        line.run(9);
        Check.due("19 turns: the first one", Check.turn(line, 18), "1 0 2 1 6 ");
        Check.outOfBounds(line, "turn(19, 0)", () -> line.turn(19, 0));
        line.run(1);
        Check.due("a test with nothing", Check.turn(line, 0), "2 1 1 1 65 ");
        Check.due("20 turns: the first one", Check.turn(line, 19), "1 0 2 1 6 ");
        line.run(1);
        Check.due("21 turns: the second one", Check.turn(line, 19), "1 0 4 1 10 ");
        Check.due("21 turns: the last one", Check.turn(line, 0), "0 1 1 1 69 ");
        for (int bad : BAD) {
            Check.outOfBounds(line, "turn(" + bad + ", 5)", () -> line.turn(bad, 5));
            Check.badArgument(line, "turn(0, " + bad + ")", () -> line.turn(0, bad));
        }
        Check.outOfBounds(line, "turn(20, 0)", () -> line.turn(20, 0));
        Check.badArgument(line, "turn(19, 5)", () -> line.turn(19, 5));
    }

    private static String next(PolledLine line) {
        return line.nextKind() + " " + line.nextTerminal();
    }

    private static void whatComesNext() {
        PolledLine line = Check.loaded("terminal a;terminal b;terminal c;line 5 1 1 3;burst 2;");
        Check.due("idle", next(line), "3 -1");
        line.addPlace(1);
        line.addPlace(2);
        Check.due("a poll", next(line), "0 1");
        line.post(-1, 2, 1);
        Check.due("a select", next(line), "1 2");
        line.run(1);
        Check.due("a poll behind a select", next(line), "0 1");
        line.kill(2);
        line.post(-1, 2, 1);
        Check.due("a second select", next(line), "1 2");
        line.run(1);
        Check.due("off", line.off(), 4);
        Check.due("a test in turn 3", next(line), "2 2");
        line.set(3, 4);
        Check.due("no test in turn 3", next(line), "0 1");
        line.set(3, 0);
        Check.due("never a test", next(line), "0 1");
        String before = PolledLineFacts.of(line);
        line.nextKind();
        Check.due("asking changes nothing", PolledLineFacts.of(line), before);
    }

    private static String often(PolledLine line, int terminal) {
        StringBuilder text = new StringBuilder();
        for (int what = 0; what <= 3; what++) {
            text.append(line.often(terminal, what)).append(' ');
        }
        return text.toString();
    }

    /** A poll and a select count once each, and are missed once, however many tries they have. */
    private static void oftenCountsNoTries() {
        PolledLine line = Check.loaded("terminal a;list a;line 1 3 5 4;" + Check.noise(20, "x.."));
        line.run(1);
        Check.due("a poll of two tries", Check.turn(line, 0) + often(line, 0), "0 0 1 2 6 1 0 0 0 ");
        line.kill(0);
        line.post(-1, 0, 1);
        line.run(1);
        Check.due("a select of three tries", Check.turn(line, 0) + often(line, 0), "1 0 0 3 12 1 1 0 1 ");
        line.run(1);
        Check.due("a poll of three tries", Check.turn(line, 0) + often(line, 0), "0 0 0 3 18 2 1 0 2 ");
        Check.due("MISSES, tries that failed, missed", line.terminal(0, 5) + " " + line.account(7) + " " + line.account(8), "2 7 2");
        line.set(4, 2);
        line.run(2);
        Check.due("the second select behind the poll", Check.turn(line, 0) + often(line, 0), "1 0 0 3 30 2 3 0 4 ");
    }

    private static void worstAndOften() {
        PolledLine line = Check.loaded("terminal a;terminal b;terminal c;list a b c;line 1 1 2 7;");
        Check.due("worst of none", line.worst(), PolledLine.NONE);
        line.run(3);
        Check.due("worst when none was missed", line.worst(), PolledLine.NONE);
        line.kill(1);
        line.kill(2);
        line.run(2);
        Check.due("worst", line.worst(), 1);
        line.run(1);
        Check.due("worst on a tie", line.worst(), 1);
        line.run(3);
        Check.due("worst on a tie of two", line.worst(), 1);
        Check.due("off", line.off(), 6);
        // Of 40 turns there are 6 tests, of b and c in turns; a is polled in the others.
        line.run(40);
        Check.due("often, a", often(line, 0), "37 0 0 0 ");
        Check.due("often, b", often(line, 1), "3 0 3 2 ");
        Check.due("often, c", often(line, 2), "3 0 3 2 ");
        Check.due("tests do not count as missed", line.worst(), 1);
        line.post(-1, 0, 1);
        line.run(1);
        Check.due("selected", line.often(0, 1), 1);
        for (int bad : BAD) {
            Check.outOfBounds(line, "often(" + bad + ", 4)", () -> line.often(bad, 4));
            Check.badArgument(line, "often(0, " + bad + ")", () -> line.often(0, bad));
        }
        Check.outOfBounds(line, "often(3, 0)", () -> line.often(3, 0));
        Check.badArgument(line, "often(2, 4)", () -> line.often(2, 4));
        PolledLine last = Check.loaded("terminal a;terminal b;terminal c;list c b;line 1 1 5 0;");
        last.kill(1);
        last.kill(2);
        last.run(3);
        Check.due("worst, with a greater number", last.worst(), 2);
        last.undo();
        Check.due("worst, undone", last.worst(), PolledLine.NONE);
        PolledLine first = Check.loaded("terminal a;terminal b;list a b;line 1 1 5 0;");
        first.kill(0);
        first.run(2);
        Check.due("worst, with the number 0", first.worst(), 0);
    }

    private static void meanTimeAndClearShare() {
        PolledLine line = Check.loaded("terminal a delay 1 print 3;list a;");
        Check.due("meanTime of none", line.meanTime(), 0.0);
        Check.due("clearShare of nothing", line.clearShare(), 1.0f);
        line.post(0, -1, 1);
        line.post(0, -1, 1);
        line.post(0, -1, 2);
        Check.due("meanTime when none is delivered", line.meanTime(), 0.0);
        // The host takes them at 3, 7 and 12.
        line.run(3);
        Check.due("meanTime", line.meanTime(), 22.0 / 3.0);
        line.post(-1, 0, 1);
        line.run(1);
        Check.due("meanTime while one is in the BUFFER", line.meanTime(), 22.0 / 3.0);
        line.run(1);
        // Posted at 13, in the BUFFER at 17, delivered at 20.
        Check.due("meanTime with one that is posted later", line.meanTime(), 29.0 / 4.0);
        Check.due("clearShare without noise", line.clearShare(), 1.0f);
        PolledLine noisy = Check.loaded("terminal a;list a;line 5 2 2 0;" + Check.noise(30, "x.x.."));
        noisy.run(2);
        Check.due("sent and garbled", noisy.account(0) + " " + noisy.account(1), "5 2");
        Check.due("clearShare", noisy.clearShare(), 3.0f / 5.0f);
    }
}
