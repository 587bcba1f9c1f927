/** What changes and turns leave as it is, held against a twin of the line that was left alone. */
public final class StaysTest {
    /** Each place of the rings, copies, full BUFFERs, and terminals that are off or dead come about within 60 turns. */
    private static final String SETUP = "terminal a;terminal b delay 3 room 1 print 20;terminal c print 0;terminal d;terminal e;"
        + "list a b c a d;line 2 2 2 7;burst 2;noise 25 4321;";
    private static final int TURNS = 60;
    private static final int A = 0;
    private static final int B = 1;
    private static final int C = 2;
    private static final int D = 3;
    private static final int E = 4;

    private interface Pair {
        void make(PolledLine line);
    }

    public static void main(String[] args) {
        killAndWake();
        addAndDrop();
        setAndSetBack();
        post();
        questions();
        wakeLeavesMisses();
        offLeavesTheBuffer();
        busyLeavesTheRing();
        Check.end();
    }

    private static PolledLine busyLine(int turns) {
        PolledLine line = Check.loaded(SETUP);
        for (int i = 0; i < 8; i++) {
            line.post(A, B, 2 + i % 3);
            line.post(-1, B, 1);
            line.post(i % 3, (i + 1) % 3, 1 + i);
        }
        line.kill(D);
        line.post(-1, D, 1);
        if (turns > 0) {
            line.run(turns);
        }
        return line;
    }

    /** Changes that take one another back leave all that can be asked for, and the turns that come. */
    private static void leaves(String what, Pair pair) {
        for (int turns = 0; turns <= TURNS; turns++) {
            PolledLine line = busyLine(turns);
            PolledLine twin = busyLine(turns);
            pair.make(line);
            Check.due(what + " behind " + turns + " turns", PolledLineFacts.of(line), PolledLineFacts.of(twin));
            line.run(TURNS);
            twin.run(TURNS);
            Check.due("the turns behind " + what + " behind " + turns, PolledLineFacts.of(line), PolledLineFacts.of(twin));
        }
    }

    private static void killAndWake() {
        leaves("kill and wake", line -> {
            line.kill(B);
            line.wake(B);
        });
        leaves("wake and kill", line -> {
            line.wake(D);
            line.kill(D);
        });
        leaves("kill of a dead one, wake of one that is alive", line -> {
            line.kill(D);
            line.wake(C);
        });
    }

    private static void addAndDrop() {
        leaves("addPlace and dropPlace", line -> {
            int places = line.addPlace(C);
            line.dropPlace(places - 1);
        });
        leaves("dropPlace and addPlace", line -> line.addPlace(line.dropPlace(4)));
        leaves("all places dropped and added", line -> {
            int[] dropped = new int[5];
            for (int i = 0; i < dropped.length; i++) {
                dropped[i] = line.dropPlace(0);
            }
            for (int terminal : dropped) {
                line.addPlace(terminal);
            }
        });
    }

    private static void setAndSetBack() {
        int[] others = {20, 5, 5, 0, 5, 99};
        for (int setting = 0; setting < others.length; setting++) {
            int number = setting;
            leaves("set(" + number + ")", line -> line.set(number, line.set(number, others[number])));
        }
    }

    /** A message of a terminal that is never polled, but for tests, and is not off leaves the turns. */
    private static void post() {
        for (int turns = 0; turns <= TURNS; turns++) {
            PolledLine line = busyLine(turns);
            PolledLine twin = busyLine(turns);
            line.post(E, A, 20);
            line.run(TURNS);
            twin.run(TURNS);
            line.post(E, A, 1);
            String others = "|";
            String twins = "|";
            for (int message = 0; message < twin.count(2); message++) {
                others += Check.message(line, message);
                twins += Check.message(twin, message);
            }
            for (int terminal = A; terminal <= E; terminal++) {
                for (int what = 0; what <= 13; what++) {
                    boolean isItsRow = terminal == E && what == 6;
                    others += line.terminal(terminal, what) - (isItsRow ? 2 : 0) + " ";
                    twins += twin.terminal(terminal, what) + " ";
                }
                for (int what = 0; what <= 3; what++) {
                    others += line.often(terminal, what) + " ";
                    twins += twin.often(terminal, what) + " ";
                }
            }
            for (int index = 0; index < 20; index++) {
                others += Check.turn(line, index);
                twins += Check.turn(twin, index);
            }
            Check.due("post behind " + turns + " turns", others + Check.accounts(line) + line.count(5), twins + Check.accounts(twin) + twin.count(5));
        }
    }

    private static void questions() {
        leaves("questions and predictions", line -> {
            line.deliveredIn(9);
            line.timeIn(100);
            line.deliversIn(2);
            line.quietIn();
            line.switchesIn(B);
            line.bestTries(50);
            line.lostByNoise(100);
            line.nextKind();
            line.nextTerminal();
            line.printTerminals();
            line.printList();
            line.saveState();
        });
    }

    private static void wakeLeavesMisses() {
        PolledLine line = Check.loaded("terminal a;list a;line 1 1 2 0;");
        line.kill(A);
        line.run(1);
        line.wake(A);
        Check.due("MISSES behind wake, and on", line.terminal(A, 5) + " " + line.terminal(A, 4), "1 1");
        line.kill(A);
        line.run(1);
        line.wake(A);
        Check.due("MISSES behind wake, and off", line.terminal(A, 5) + " " + line.terminal(A, 4), "2 0");
    }

    /** What is in the BUFFER of a terminal is delivered at its time, too, if the terminal is off. */
    private static void offLeavesTheBuffer() {
        PolledLine line = Check.loaded("terminal a print 30;list a;line 1 1 1 0;");
        line.post(-1, A, 1);
        line.run(1);
        line.kill(A);
        line.run(1);
        line.wake(A);
        Check.due("off, the message in the BUFFER", line.off() + " " + line.terminal(A, 8) + " " + line.count(3), "1 1 8");
        line.run(26);
        Check.due("a tick ahead", line.terminal(A, 8) + " " + line.count(3), "1 34");
        line.run(1);
        Check.due("off and delivered", line.off() + " " + line.terminal(A, 8) + " " + line.message(0, 7), "1 0 35");
    }

    /** A terminal that was busy was selected, so that the next one of the ring comes. */
    private static void busyLeavesTheRing() {
        PolledLine line = Check.loaded("terminal a room 1 print 30;terminal b room 1 print 30;terminal c room 1 print 30;burst 5;");
        for (int i = 0; i < 9; i++) {
            line.post(-1, i % 3, 1);
        }
        String selected = "";
        for (int i = 0; i < 7; i++) {
            line.run(1);
            selected += line.turn(0, 1) + "" + line.turn(0, 2) + " ";
        }
        Check.due("terminals that were selected, and how it ended", selected, "02 12 22 04 14 24 04 ");
    }
}
