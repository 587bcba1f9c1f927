import java.util.NoSuchElementException;

/** Promises 32 to 39, 43 and 44: the changes, their exceptions, undo and the saved state. */
public final class ChangesTest {
    private static final int[] BAD = {-2, Integer.MIN_VALUE, Integer.MAX_VALUE};

    public static void main(String[] args) {
        post();
        killAndWake();
        run();
        addPlace();
        dropPlace();
        set();
        undo();
        undoOfEach();
        turnsBehindUndo();
        undoneMessages();
        undoneTurns();
        whatIsNoChange();
        savedState();
        savedStateAndUndo();
        Check.end();
    }

    private static void post() {
        PolledLine line = new PolledLine();
        line.run(2);
        Check.due("post", line.post(0, 1, 1) + " " + line.post(1, -1, 20) + " " + line.post(-1, 0, 7), "0 1 2");
        Check.due("messages", Check.message(line, 0) + Check.message(line, 1) + Check.message(line, 2),
            "0 1 1 0 8 -1 -1 -1 1 -1 20 0 8 -1 -1 -1 -1 0 7 1 8 8 -1 -1 ");
        Check.due("changes", line.count(12), 4);
        for (int bad : BAD) {
            Check.outOfBounds(line, "post(" + bad + ", 0, 1)", () -> line.post(bad, 0, 1));
            Check.outOfBounds(line, "post(0, " + bad + ", 1)", () -> line.post(0, bad, 1));
            Check.outOfBounds(line, "post(" + bad + ", " + bad + ", 0)", () -> line.post(bad, bad, 0));
            Check.badArgument(line, "post(0, 1, " + bad + ")", () -> line.post(0, 1, bad));
        }
        Check.outOfBounds(line, "post(2, 0, 1)", () -> line.post(2, 0, 1));
        Check.outOfBounds(line, "post(-1, 2, 21)", () -> line.post(-1, 2, 21));
        Check.badArgument(line, "post(1, 1, 1)", () -> line.post(1, 1, 1));
        Check.badArgument(line, "post(-1, -1, 1)", () -> line.post(-1, -1, 1));
        Check.badArgument(line, "post(0, 1, 0)", () -> line.post(0, 1, 0));
        Check.badArgument(line, "post(0, 1, 21)", () -> line.post(0, 1, 21));
        Check.due("changes that were none", line.count(12), 4);
        for (int i = 3; i < 40; i++) {
            Check.due("post " + i, line.post(0, -1, 1), i);
        }
        Check.throwsOnly(line, "a 41st message", IllegalStateException.class, () -> line.post(0, 1, 1));
        Check.badArgument(line, "a 41st message with a bad LENGTH", () -> line.post(0, 1, 0));
        Check.outOfBounds(line, "a 41st message of nobody", () -> line.post(9, 1, 1));
        line.undo();
        Check.due("post behind undo", line.post(1, 0, 1), 39);
    }

    private static void killAndWake() {
        PolledLine line = new PolledLine();
        Check.due("kill", line.kill(1), 1);
        Check.due("kill once more", line.kill(1), 0);
        Check.due("alive", line.terminal(0, 3) + " " + line.terminal(1, 3) + " " + line.count(11), "1 0 1");
        Check.due("wake", line.wake(1), 0);
        Check.due("wake once more", line.wake(1), 1);
        Check.due("alive again", line.terminal(1, 3) + " " + line.count(11), "1 0");
        Check.due("changes, also where nothing is different", line.count(12), 4);
        int[] bad = {-1, 2, Integer.MIN_VALUE, Integer.MAX_VALUE};
        for (int terminal : bad) {
            Check.outOfBounds(line, "kill(" + terminal + ")", () -> line.kill(terminal));
            Check.outOfBounds(line, "wake(" + terminal + ")", () -> line.wake(terminal));
        }
        Check.due("changes that were none", line.count(12), 4);
    }

    private static void run() {
        PolledLine line = new PolledLine();
        line.post(0, -1, 4);
        line.post(0, -1, 4);
        Check.due("run", line.run(2) + " " + line.run(1) + " " + line.run(1), "1 1 0");
        Check.due("TURN", line.count(4) + " " + line.count(12), "4 5");
        for (int bad : BAD) {
            Check.badArgument(line, "run(" + bad + ")", () -> line.run(bad));
        }
        Check.badArgument(line, "run(0)", () -> line.run(0));
        Check.badArgument(line, "run(101)", () -> line.run(101));
        for (int i = 0; i < 99; i++) {
            line.run(100);
        }
        Check.badArgument(line, "run beyond TURN 9999", () -> line.run(96));
        Check.badArgument(line, "run(100) beyond TURN 9999", () -> line.run(100));
        line.run(95);
        Check.due("TURN at last", line.count(4), 9999);
        Check.badArgument(line, "run(1) beyond TURN 9999", () -> line.run(1));
        Check.due("undo", line.undo() + " " + line.count(4), "7 9904");
    }

    private static void addPlace() {
        PolledLine line = new PolledLine();
        for (int i = 3; i <= 16; i++) {
            Check.due("addPlace " + i, line.addPlace(i % 2), i);
        }
        Check.due("places", line.place(2) + " " + line.place(3) + " " + line.place(15), "1 0 0");
        Check.throwsOnly(line, "a 17th place", IllegalStateException.class, () -> line.addPlace(0));
        int[] bad = {-1, 2, Integer.MIN_VALUE, Integer.MAX_VALUE};
        for (int terminal : bad) {
            Check.outOfBounds(line, "addPlace(" + terminal + ")", () -> line.addPlace(terminal));
        }
        line.undo();
        Check.due("addPlace behind undo", line.addPlace(1) + " " + line.place(15), "16 1");
    }

    private static void dropPlace() {
        PolledLine line = Check.loaded("terminal a;terminal b;terminal c;list a b c b;");
        Check.due("dropPlace in between", line.dropPlace(1), 1);
        line.printList();
        Check.due("list", Check.output(line), "a c b");
        Check.due("dropPlace at the end", line.dropPlace(2), 1);
        Check.due("dropPlace at the beginning", line.dropPlace(0), 0);
        Check.due("what is left", line.count(1) + " " + line.place(0), "1 2");
        int[] bad = {-1, 1, 15, Integer.MIN_VALUE, Integer.MAX_VALUE};
        for (int place : bad) {
            Check.outOfBounds(line, "dropPlace(" + place + ")", () -> line.dropPlace(place));
        }
        Check.due("the last one", line.dropPlace(0), 2);
        Check.outOfBounds(line, "dropPlace(0) of none", () -> line.dropPlace(0));
        Check.due("changes", line.count(12), 4);
        line.undo();
        line.undo();
        Check.due("undone", line.count(1) + " " + line.place(0) + " " + line.place(1), "2 0 2");
    }

    private static void set() {
        int[] low = {1, 1, 1, 0, 0, 0};
        int[] high = {20, 5, 5, 20, 5, 99};
        int[] usual = {5, 3, 2, 8, 1, 0};
        PolledLine line = new PolledLine();
        for (int i = 0; i < 6; i++) {
            int setting = i;
            Check.due("set to the smallest value, " + i, line.set(i, low[i]), usual[i]);
            Check.due("set to the greatest value, " + i, line.set(i, high[i]), low[i]);
            Check.due("setting " + i, line.setting(i), high[i]);
            Check.badArgument(line, "set below the range, " + i, () -> line.set(setting, low[setting] - 1));
            Check.badArgument(line, "set above the range, " + i, () -> line.set(setting, high[setting] + 1));
            Check.badArgument(line, "set far below, " + i, () -> line.set(setting, Integer.MIN_VALUE));
            Check.badArgument(line, "set far above, " + i, () -> line.set(setting, Integer.MAX_VALUE));
        }
        Check.due("set to what it is", line.set(0, 20), 20);
        Check.due("changes", line.count(12), 8);
        int[] bad = {-1, 6, Integer.MIN_VALUE, Integer.MAX_VALUE};
        for (int setting : bad) {
            Check.badArgument(line, "set(" + setting + ", 1)", () -> line.set(setting, 1));
        }
        Check.due("SEED stays", line.count(5), 1);
    }

    private static void undo() {
        PolledLine line = new PolledLine();
        Check.throwsOnly(line, "undo of nothing", NoSuchElementException.class, () -> line.undo());
        String[] facts = new String[12];
        for (int i = 0; i < 11; i++) {
            facts[i] = PolledLineFacts.of(line);
            line.post(i % 2, -1, 1 + i);
            Check.due("changes", line.count(12), Math.min(8, i + 1));
        }
        for (int i = 10; i >= 3; i--) {
            Check.due("undo", line.undo(), i - 3);
            Check.due("undone " + i, PolledLineFacts.of(line), facts[i]);
        }
        Check.throwsOnly(line, "undo of a ninth change", NoSuchElementException.class, () -> line.undo());
        line.run(1);
        line.kill(0);
        Check.due("undo of newer changes", line.undo() + " " + line.undo(), "1 0");
        Check.due("undone newer changes", PolledLineFacts.of(line), facts[3]);
        Check.throwsOnly(line, "undo of what was undone", NoSuchElementException.class, () -> line.undo());
    }

    private static void undoOfEach() {
        PolledLine line = Check.loaded("terminal a print 30;terminal b;list a b;line 3 2 1 3;noise 25 13;");
        for (int i = 0; i < 8; i++) {
            line.post(i % 3 - 1, (i + 1) % 3 - 1, 5);
        }
        line.run(7);
        String[] facts = new String[8];
        facts[0] = PolledLineFacts.of(line);
        line.post(0, 1, 2);
        facts[1] = PolledLineFacts.of(line);
        line.kill(1);
        facts[2] = PolledLineFacts.of(line);
        line.run(60);
        facts[3] = PolledLineFacts.of(line);
        line.wake(1);
        facts[4] = PolledLineFacts.of(line);
        line.addPlace(0);
        facts[5] = PolledLineFacts.of(line);
        line.dropPlace(0);
        facts[6] = PolledLineFacts.of(line);
        line.set(5, 0);
        facts[7] = PolledLineFacts.of(line);
        Check.play(line, "turns 40;kill a;post a b 1;");
        line.appendInput(0x20202020, 0x20202020, 0x20202020, 0x20202020, 0x2020203f);
        line.printList();
        for (int i = 7; i >= 0; i--) {
            line.undo();
            Check.due("undone " + i, PolledLineFacts.of(line), facts[i]);
        }
        Check.due("the output stays", Check.output(line), "b a");
        Check.due("the input stays", line.playScript() + " " + line.errorOffset(), "-1 19");
    }

    /** The turns behind an undo, or behind restoreState, are those that would have come. */
    private static void turnsBehindUndo() {
        PolledLine line = Check.loaded("terminal a;terminal b;terminal c;list a b c;line 1 1 1 3;burst 2;noise 20 5;");
        for (int i = 0; i < 12; i++) {
            line.post(i % 4 - 1, (i + 1) % 4 - 1, 1 + i);
        }
        line.kill(0);
        for (int turns = 0; turns < 30; turns++) {
            line.saveState();
            line.run(5);
            String facts = PolledLineFacts.of(line);
            line.undo();
            line.run(50);
            line.undo();
            line.run(5);
            Check.due("5 turns behind an undo behind " + turns, PolledLineFacts.of(line), facts);
            line.run(50);
            line.restoreState();
            line.run(5);
            Check.due("5 turns behind restoreState behind " + turns, PolledLineFacts.of(line), facts);
            line.restoreState();
            line.run(1);
        }
    }

    private static void undoneMessages() {
        PolledLine line = new PolledLine();
        line.run(2);
        line.post(0, 1, 3);
        String facts = PolledLineFacts.of(line);
        line.saveState();
        line.undo();
        line.run(1);
        line.post(-1, 0, 4);
        line.restoreState();
        Check.due("another message in its place", PolledLineFacts.of(line), facts);
    }

    private static void undoneTurns() {
        PolledLine line = new PolledLine();
        line.run(2);
        line.run(1);
        line.undo();
        Check.due("turns that are kept", Check.turn(line, 0) + Check.turn(line, 1), "0 1 1 1 8 0 0 1 1 4 ");
        Check.outOfBounds(line, "a turn that was undone", () -> line.turn(2, 0));
        line.undo();
        Check.outOfBounds(line, "all turns were undone", () -> line.turn(0, 0));
    }

    private static void whatIsNoChange() {
        PolledLine line = new PolledLine();
        line.run(1);
        line.deliveredIn(5);
        line.timeIn(5);
        line.quietIn();
        line.switchesIn(0);
        line.bestTries(5);
        line.lostByNoise(5);
        line.nextKind();
        line.printList();
        line.printTerminals();
        line.saveState();
        line.appendInput(0, 0, 0, 0, 0);
        line.truncateInput(3);
        line.playScript();
        Check.feed(line, "terminal;");
        line.loadLine();
        Check.due("changes", line.count(12), 1);
    }

    private static void savedState() {
        PolledLine line = Check.loaded("terminal a;terminal b;list a b;noise 30 5;");
        Check.throwsOnly(line, "nothing is saved", NoSuchElementException.class, () -> line.restoreState());
        line.post(0, 1, 3);
        line.run(3);
        int time = line.count(3);
        String facts = PolledLineFacts.of(line);
        Check.due("saveState", line.saveState(), time);
        Check.due("changes stay", line.count(12), 2);
        line.set(5, 99);
        line.post(1, 0, 3);
        line.kill(0);
        line.run(70);
        line.dropPlace(0);
        line.printTerminals();
        String output = Check.output(line);
        line.appendInput(0x2020203f, 0x20202020, 0x20202020, 0x20202020, 0x20202020);
        Check.due("restoreState", line.restoreState(), time);
        Check.due("restored", PolledLineFacts.of(line), facts);
        Check.throwsOnly(line, "nothing can be undone", NoSuchElementException.class, () -> line.undo());
        Check.due("the output stays", Check.output(line), output);
        Check.due("the input stays", line.playScript() + " " + line.errorOffset(), "-1 3");
        line.run(9);
        Check.due("restoreState once more", line.restoreState(), time);
        Check.due("restored once more", PolledLineFacts.of(line), facts);
        Check.due("the error stays", line.errorCode() + " " + line.errorOffset(), "1 3");
        line.run(4);
        int later = line.count(3);
        String laterFacts = PolledLineFacts.of(line);
        Check.due("saveState in place of the earlier one", line.saveState(), later);
        line.run(4);
        Check.due("restoreState of the later one", line.restoreState(), later);
        Check.due("restored the later one", PolledLineFacts.of(line), laterFacts);
    }

    private static void savedStateAndUndo() {
        PolledLine line = new PolledLine();
        line.run(1);
        line.run(1);
        String facts = PolledLineFacts.of(line);
        line.saveState();
        line.undo();
        line.undo();
        line.post(1, 0, 20);
        line.restoreState();
        Check.due("undo leaves what is saved", PolledLineFacts.of(line), facts);
        line.kill(0);
        Check.due("a change behind restoreState", line.count(12) + " " + line.undo(), "1 0");
        Check.due("undone to the restored state", PolledLineFacts.of(line), facts);
    }
}
