/** Promises 21 to 27: what would be. Every prediction is worked out on a copy, and held against the turns that follow. */
public final class PredictionsTest {
    private static final int[] BAD = {-1, Integer.MIN_VALUE, Integer.MAX_VALUE};
    private static final String BUSY_LINE = "terminal a delay 1 room 2 print 9;terminal b print 3;terminal c room 1 print 20;"
        + "list a b c b;line 7 2 2 6;burst 2;noise 12 4711;";

    public static void main(String[] args) {
        deliveredInAndTimeIn();
        deliversIn();
        quietIn();
        farAway();
        switchesIn();
        switchesFarAway();
        bestTries();
        lostByNoise();
        behindTheLastTurn();
        Check.end();
    }

    private static PolledLine busyLine() {
        PolledLine line = Check.loaded(BUSY_LINE);
        for (int i = 0; i < 24; i++) {
            line.post(i % 4 - 1, (i + i / 8 + 1) % 4 - 1 == i % 4 - 1 ? (i + 2) % 4 - 1 : (i + i / 8 + 1) % 4 - 1, 1 + i * 7 % 20);
        }
        line.run(5);
        return line;
    }

    private static void deliveredInAndTimeIn() {
        PolledLine line = busyLine();
        String before = PolledLineFacts.of(line);
        int[] delivered = new int[101];
        int[] time = new int[101];
        for (int turns = 0; turns <= 100; turns++) {
            delivered[turns] = line.deliveredIn(turns);
            time[turns] = line.timeIn(turns);
        }
        Check.due("predictions change nothing", PolledLineFacts.of(line) + line.count(12), before + line.count(12));
        Check.due("behind no turn", delivered[0] + " " + time[0], line.count(9) + " " + line.count(3));
        for (int turns = 1; turns <= 100; turns++) {
            line.run(1);
            Check.due("deliveredIn(" + turns + ")", delivered[turns], line.count(9));
            Check.due("timeIn(" + turns + ")", time[turns], line.count(3));
        }
        PolledLine easy = new PolledLine();
        easy.post(0, -1, 4);
        Check.due("easy: deliveredIn", easy.deliveredIn(0) + " " + easy.deliveredIn(1), "0 1");
        Check.due("easy: timeIn", easy.timeIn(0) + " " + easy.timeIn(1) + " " + easy.timeIn(3), "0 8 16");
        for (int bad : BAD) {
            Check.badArgument(line, "deliveredIn(" + bad + ")", () -> line.deliveredIn(bad));
            Check.badArgument(line, "timeIn(" + bad + ")", () -> line.timeIn(bad));
        }
        Check.badArgument(line, "deliveredIn(101)", () -> line.deliveredIn(101));
        Check.badArgument(line, "timeIn(101)", () -> line.timeIn(101));
    }

    private static void deliversIn() {
        PolledLine line = busyLine();
        int[] want = new int[24];
        int[] got = new int[24];
        for (int message = 0; message < 24; message++) {
            got[message] = line.deliversIn(message);
            want[message] = line.message(message, 3) == 3 ? 0 : PolledLine.NONE;
        }
        for (int turns = 1; turns <= 200; turns++) {
            line.run(1);
            for (int message = 0; message < 24; message++) {
                if (want[message] == PolledLine.NONE && line.message(message, 3) == 3) {
                    want[message] = turns;
                }
            }
        }
        for (int message = 0; message < 24; message++) {
            Check.due("deliversIn(" + message + ")", got[message], want[message]);
        }
        for (int bad : BAD) {
            Check.outOfBounds(line, "deliversIn(" + bad + ")", () -> line.deliversIn(bad));
        }
        Check.outOfBounds(line, "deliversIn(24)", () -> line.deliversIn(24));
        PolledLine none = Check.loaded("terminal a;");
        Check.outOfBounds(none, "deliversIn(0) of none", () -> none.deliversIn(0));
        none.post(0, -1, 1);
        Check.due("never", none.deliversIn(0), PolledLine.NONE);
    }

    private static void quietIn() {
        PolledLine line = new PolledLine();
        Check.due("quietIn without messages", line.quietIn(), 0);
        line.post(1, -1, 4);
        Check.due("quietIn", line.quietIn(), 2);
        line.run(1);
        Check.due("quietIn behind a turn", line.quietIn(), 1);
        line.run(1);
        Check.due("quietIn behind two", line.quietIn(), 0);
        PolledLine busy = busyLine();
        int turns = busy.quietIn();
        int counted = 0;
        while (busy.count(9) < busy.count(2) && counted < 300) {
            busy.run(1);
            counted++;
        }
        Check.due("quietIn of many", turns, counted);
        PolledLine none = Check.loaded("terminal a;");
        none.post(0, -1, 1);
        Check.due("never quiet", none.quietIn(), PolledLine.NONE);
    }

    /** A printer that is mostly busy, so that more than 200 turns go by. */
    private static PolledLine slowPrinter(String more) {
        PolledLine line = Check.loaded("terminal a delay 1 room 1 print 30;" + more);
        for (int i = 0; i < 40; i++) {
            line.post(-1, 0, 1);
        }
        return line;
    }

    private static void farAway() {
        PolledLine line = slowPrinter("burst 5;");
        Check.due("too far", line.deliversIn(39) + " " + line.quietIn(), "-1 -1");
        int calls = 0;
        while (line.deliversIn(39) == PolledLine.NONE && line.quietIn() == PolledLine.NONE && calls < 400) {
            line.run(1);
            calls++;
        }
        Check.due("as far as can be seen", line.deliversIn(39) + " " + line.quietIn(), "200 200");
        line.run(100);
        line.run(99);
        Check.due("not yet delivered", line.message(39, 7), PolledLine.NONE);
        line.run(1);
        Check.due("delivered", line.message(39, 3), 3);
    }

    private static void switchesIn() {
        PolledLine line = Check.loaded("terminal a;terminal b;list a b a;line 5 3 2 6;");
        Check.due("never off", line.switchesIn(0), PolledLine.NONE);
        line.kill(1);
        Check.due("off", line.switchesIn(1), 5);
        line.run(4);
        Check.due("off in the next turn", line.switchesIn(1), 1);
        line.run(1);
        Check.due("never on", line.switchesIn(1), PolledLine.NONE);
        line.wake(1);
        Check.due("on in the next turn", line.switchesIn(1), 1);
        line.run(1);
        Check.due("it is on", line.off(), 0);
        for (int bad : BAD) {
            Check.outOfBounds(line, "switchesIn(" + bad + ")", () -> line.switchesIn(bad));
        }
        Check.outOfBounds(line, "switchesIn(2)", () -> line.switchesIn(2));
    }

    private static void switchesFarAway() {
        PolledLine line = slowPrinter("terminal b delay 1;terminal c;list c b b b b b b b b b b b b b b b;line 5 1 5 0;burst 5;");
        line.kill(2);
        Check.due("too far", line.switchesIn(2), PolledLine.NONE);
        int calls = 0;
        while (line.switchesIn(2) == PolledLine.NONE && calls < 400) {
            line.run(1);
            calls++;
        }
        Check.due("as far as can be seen", line.switchesIn(2), 200);
        line.run(100);
        line.run(99);
        Check.due("still on", line.off(), 0);
        line.run(1);
        Check.due("off", line.off(), 4);
    }

    private static PolledLine noisy(String setup, int noise, String pattern) {
        PolledLine line = Check.loaded(setup + Check.noise(noise, pattern));
        line.post(0, -1, 4);
        return line;
    }

    private static void bestTries() {
        String setup = "terminal a;list a;line 5 3 2 8;";
        Check.due("one try", noisy(setup, 20, "...").bestTries(1), 1);
        Check.due("two tries", noisy(setup, 20, "x...").bestTries(1), 2);
        Check.due("three tries", noisy(setup, 20, "xx...").bestTries(1), 3);
        Check.due("five tries", noisy(setup, 20, "xxxx...").bestTries(1), 5);
        Check.due("none helps", noisy(setup, 30, "xxxxx").bestTries(1), 1);
        Check.due("it may be later", noisy(setup, 20, "x...").bestTries(2), 1);
        PolledLine line = noisy(setup, 20, "x...");
        String before = PolledLineFacts.of(line);
        Check.due("50 turns", line.bestTries(50), 1);
        Check.due("bestTries changes nothing", PolledLineFacts.of(line), before);
        for (int bad : BAD) {
            Check.badArgument(line, "bestTries(" + bad + ")", () -> line.bestTries(bad));
        }
        Check.badArgument(line, "bestTries(0)", () -> line.bestTries(0));
        Check.badArgument(line, "bestTries(51)", () -> line.bestTries(51));
    }

    private static void lostByNoise() {
        String setup = "terminal a;list a;line 5 1 5 8;";
        Check.due("a message that is lost", noisy(setup, 20, "x...").lostByNoise(1), 1);
        Check.due("a message that only comes later", noisy(setup, 20, "x...").lostByNoise(2), 0);
        Check.due("no noise", noisy(setup, 20, "...").lostByNoise(1), 0);
        // The thing that is garbled has the remainder 0, so that a NOISE of 1 would still do it.
        Check.due("without any noise", noisy(setup, 1, "x...").lostByNoise(1), 1);
        // What is garbled takes so long that the BUFFER is printed.
        PolledLine slow = Check.loaded("terminal a print 30;list a;line 20 2 5 8;" + Check.noise(20, "....xx"));
        slow.post(-1, 0, 1);
        Check.due("messages that are won", slow.lostByNoise(2), -1);
        slow.run(2);
        Check.due("those that are delivered now do not matter", slow.lostByNoise(1), 0);
        String before = PolledLineFacts.of(slow);
        slow.lostByNoise(100);
        Check.due("lostByNoise changes nothing", PolledLineFacts.of(slow), before);
        for (int bad : BAD) {
            Check.badArgument(slow, "lostByNoise(" + bad + ")", () -> slow.lostByNoise(bad));
        }
        Check.badArgument(slow, "lostByNoise(0)", () -> slow.lostByNoise(0));
        Check.badArgument(slow, "lostByNoise(101)", () -> slow.lostByNoise(101));
    }

    private static void behindTheLastTurn() {
        PolledLine line = Check.loaded("terminal a;");
        for (int i = 0; i < 99; i++) {
            line.run(100);
        }
        line.run(99);
        line.post(0, -1, 1);
        line.addPlace(0);
        Check.due("TIME behind TURN 9999", line.timeIn(2), 9999 + 5 + 4);
        Check.due("deliveredIn behind TURN 9999", line.deliveredIn(100) + " " + line.deliversIn(0) + " " + line.quietIn(), "1 1 1");
        Check.due("the next turn", line.nextKind() + " " + line.nextTerminal(), "0 0");
    }
}
