import java.util.NoSuchElementException;

/** Terms 6 and promises 8 to 44: one test for each sentence that names a boundary case, as BOUNDARIES.md lists them. */
public final class BoundaryCallsTest {
    private static final String ONE_TRY = "line 5 1 5 0;";
    private static final String EIGHT = "terminal a;terminal b;terminal c;terminal d;terminal e;terminal f;terminal g;terminal h;";
    private static final int LEAST = Integer.MIN_VALUE;
    private static final int MOST = Integer.MAX_VALUE;

    public static void main(String[] args) {
        changesWithoutDifference();
        eightChanges();
        refusedCallsAreNoChanges();
        undoneIsKeptNoMore();
        firstListedException();
        theHostIsNoTerminal();
        predictionsAreWorkedOutOnACopy();
        counts();
        accountsAndSettings();
        statesOfOneMessage();
        terminalNumbers();
        nameLetters();
        messageNumbers();
        timesThatAreNone();
        rows();
        places();
        offSets();
        twentyTurns();
        idleTurn();
        nextWhenIdle();
        gapIsZero();
        predictedTurns();
        deliversIn();
        deliversInTwoHundred();
        quietIn();
        switchesOffInTwoHundred();
        switchesOnInTwoHundred();
        bestTries();
        lostByNoise();
        worst();
        often();
        meanTime();
        clearShare();
        post();
        killAndWake();
        run();
        runToTheLastTurn();
        addPlace();
        dropPlace();
        set();
        undo();
        longestTerminals();
        longestList();
        outputBytes();
        saveState();
        restoreState();
        Check.end();
    }

    private static void noSuchElement(PolledLine line, String what, Check.Call call) {
        Check.throwsOnly(line, what, NoSuchElementException.class, call);
    }

    private static void illegalState(PolledLine line, String what, Check.Call call) {
        Check.throwsOnly(line, what, IllegalStateException.class, call);
    }

    // ---- terms 6 ----

    private static void changesWithoutDifference() {
        PolledLine line = new PolledLine();
        String facts = PolledLineFacts.of(line);
        line.wake(0);
        line.set(0, 5);
        Check.play(line, "");
        Check.play(line, "wake b;");
        Check.due("four changes, no difference", line.count(12) + PolledLineFacts.of(line), 4 + facts);
        line.kill(0);
        line.kill(0);
        Check.due("two changes, one difference", line.count(12), 6);
        line.undo();
        Check.due("the one without is undone first", line.terminal(0, 3), 0);
        line.undo();
        Check.due("then the other one", line.terminal(0, 3), 1);
    }

    private static void eightChanges() {
        PolledLine line = new PolledLine();
        String[] facts = new String[9];
        for (int i = 0; i < 9; i++) {
            facts[i] = PolledLineFacts.of(line);
            line.run(1);
            Check.due("changes that can be undone", line.count(12), i < 8 ? i + 1 : 8);
        }
        for (int i = 8; i >= 1; i--) {
            Check.due("undo", line.undo() + PolledLineFacts.of(line), i - 1 + facts[i]);
        }
        noSuchElement(line, "the ninth one was put away", () -> line.undo());
    }

    private static void refusedCallsAreNoChanges() {
        PolledLine line = new PolledLine();
        String first = PolledLineFacts.of(line);
        for (int i = 0; i < 8; i++) {
            line.post(0, 1, 1 + i);
        }
        Check.badArgument(line, "post", () -> line.post(0, 0, 1));
        Check.outOfBounds(line, "kill", () -> line.kill(2));
        Check.outOfBounds(line, "wake", () -> line.wake(2));
        Check.badArgument(line, "run", () -> line.run(0));
        Check.outOfBounds(line, "addPlace", () -> line.addPlace(2));
        Check.outOfBounds(line, "dropPlace", () -> line.dropPlace(2));
        Check.badArgument(line, "set", () -> line.set(0, 0));
        noSuchElement(line, "restoreState", () -> line.restoreState());
        Check.playFails(line, "kill a;kill c;", PolledLine.UNKNOWN, 12);
        for (int i = 7; i >= 0; i--) {
            Check.due("undo", line.undo() + " " + line.count(2), i + " " + i);
        }
        Check.due("none of the eight was put away", PolledLineFacts.of(line), first);
    }

    private static void undoneIsKeptNoMore() {
        PolledLine line = new PolledLine();
        for (int i = 0; i < 8; i++) {
            line.run(1);
        }
        line.undo();
        line.undo();
        Check.due("six are left", line.count(12) + " " + line.count(4), "6 6");
        line.run(10);
        Check.due("seven with a new one", line.count(12) + " " + line.count(4), "7 16");
        Check.due("undone to where it was made", line.undo() + " " + line.count(4), "6 6");
        Check.due("and further", line.undo() + " " + line.count(4), "5 5");
    }

    private static void firstListedException() {
        PolledLine line = Check.loaded("terminal a;list a a a a a a a a a a a a a a a a;");
        Check.outOfBounds(line, "terminal(1, 14)", () -> line.terminal(1, 14));
        Check.outOfBounds(line, "message(0, 8)", () -> line.message(0, 8));
        Check.outOfBounds(line, "inRow(1, 3, 0)", () -> line.inRow(1, 3, 0));
        Check.outOfBounds(line, "turn(0, 5)", () -> line.turn(0, 5));
        Check.outOfBounds(line, "often(1, 4)", () -> line.often(1, 4));
        Check.outOfBounds(line, "post(1, 1, 0)", () -> line.post(1, 1, 0));
        Check.outOfBounds(line, "post(0, 1, 0)", () -> line.post(0, 1, 0));
        Check.outOfBounds(line, "addPlace(1) with 16 places", () -> line.addPlace(1));
        for (int i = 0; i < 40; i++) {
            line.post(0, -1, 1);
        }
        Check.outOfBounds(line, "post(-2, 0, 1) with 40 messages", () -> line.post(-2, 0, 1));
        Check.badArgument(line, "post(0, 0, 1) with 40 messages", () -> line.post(0, 0, 1));
        Check.badArgument(line, "post(0, -1, 21) with 40 messages", () -> line.post(0, -1, 21));
    }

    private static void theHostIsNoTerminal() {
        PolledLine line = new PolledLine();
        Check.outOfBounds(line, "terminal(-1, 0)", () -> line.terminal(-1, 0));
        Check.outOfBounds(line, "nameLetter(-1, 0)", () -> line.nameLetter(-1, 0));
        Check.outOfBounds(line, "inRow(-1, 0, 0)", () -> line.inRow(-1, 0, 0));
        Check.outOfBounds(line, "switchesIn(-1)", () -> line.switchesIn(-1));
        Check.outOfBounds(line, "often(-1, 0)", () -> line.often(-1, 0));
        Check.outOfBounds(line, "kill(-1)", () -> line.kill(-1));
        Check.outOfBounds(line, "wake(-1)", () -> line.wake(-1));
        Check.outOfBounds(line, "addPlace(-1)", () -> line.addPlace(-1));
    }

    private static void predictionsAreWorkedOutOnACopy() {
        PolledLine line = Check.loaded("terminal a print 20;terminal b;list a b a;line 3 2 2 3;burst 2;noise 25 41;");
        for (int i = 0; i < 12; i++) {
            line.post(i % 3 - 1, (i + 1) % 3 - 1, 2 + i);
        }
        line.run(4);
        line.printList();
        String before = PolledLineFacts.withTheRest(line);
        line.deliveredIn(100);
        line.timeIn(100);
        line.deliversIn(11);
        line.quietIn();
        line.switchesIn(0);
        line.bestTries(50);
        line.lostByNoise(100);
        line.nextKind();
        line.nextTerminal();
        Check.due("nothing is changed", PolledLineFacts.withTheRest(line), before);
        int time = line.timeIn(7);
        line.run(7);
        Check.due("the turns come as predicted", line.count(3), time);
    }

    // ---- what can be asked ----

    private static void counts() {
        PolledLine line = Check.loaded(EIGHT);
        Check.due("all are 0 but the terminals and SEED", Check.counts(line), "8 0 0 0 0 1 0 0 0 0 0 0 0 ");
        int[] bad = {-1, 13, LEAST, MOST};
        for (int what : bad) {
            Check.badArgument(line, "count(" + what + ")", () -> line.count(what));
        }
    }

    private static void accountsAndSettings() {
        PolledLine line = new PolledLine();
        Check.due("accounts at first", Check.accounts(line), "0 0 0 0 0 0 0 0 0 0 0 0 0 ");
        int[] bad = {-1, 13, LEAST, MOST};
        for (int what : bad) {
            Check.badArgument(line, "account(" + what + ")", () -> line.account(what));
        }
        int[] badSettings = {-1, 6, LEAST, MOST};
        for (int setting : badSettings) {
            Check.badArgument(line, "setting(" + setting + ")", () -> line.setting(setting));
        }
        Check.due("the last setting", line.setting(5), 0);
    }

    private static void statesOfOneMessage() {
        PolledLine line = Check.loaded("terminal a;terminal b print 1;list a b;");
        line.post(0, 1, 1);
        String states = "";
        for (int turns = 0; turns < 4; turns++) {
            states += line.count(6) + "" + line.count(7) + line.count(8) + line.count(9) + " ";
            line.run(1);
        }
        Check.due("states", states, "1000 0100 0001 0001 ");
    }

    private static void terminalNumbers() {
        PolledLine line = Check.loaded(EIGHT);
        Check.due("the last terminal and number", line.terminal(7, 13), 0);
        int[] none = {8, MOST, LEAST};
        for (int terminal : none) {
            Check.outOfBounds(line, "terminal(" + terminal + ", 0)", () -> line.terminal(terminal, 0));
        }
        int[] bad = {-1, 14, LEAST, MOST};
        for (int what : bad) {
            Check.badArgument(line, "terminal(7, " + what + ")", () -> line.terminal(7, what));
        }
    }

    private static void nameLetters() {
        PolledLine line = Check.loaded("terminal zzzzzz;terminal a;");
        int[] none = {-1, -2, -6, 6, 7, 26, 32, LEAST, MOST};
        for (int index : none) {
            Check.due("letter " + index + " of 6", line.nameLetter(0, index), 0);
            Check.due("letter " + index + " of 1", line.nameLetter(1, index), 0);
        }
        Check.due("ends", line.nameLetter(0, 0) + " " + line.nameLetter(0, 5) + " " + line.nameLetter(1, 0) + " " + line.nameLetter(1, 1), "26 26 1 0");
        int[] bad = {2, MOST, LEAST};
        for (int terminal : bad) {
            Check.outOfBounds(line, "nameLetter(" + terminal + ", 0)", () -> line.nameLetter(terminal, 0));
        }
    }

    private static void messageNumbers() {
        PolledLine line = new PolledLine();
        Check.outOfBounds(line, "message(0, 0) of none", () -> line.message(0, 0));
        line.post(0, -1, 1);
        Check.due("the only one", line.message(0, 2), 1);
        int[] none = {-1, 1, 39, 40, LEAST, MOST};
        for (int message : none) {
            Check.outOfBounds(line, "message(" + message + ", 0)", () -> line.message(message, 0));
        }
        int[] bad = {-1, 8, LEAST, MOST};
        for (int what : bad) {
            Check.badArgument(line, "message(0, " + what + ")", () -> line.message(0, what));
        }
        line.undo();
        Check.outOfBounds(line, "one that was undone", () -> line.message(0, 0));
    }

    private static void timesThatAreNone() {
        PolledLine line = Check.loaded("terminal a;terminal b;list a;");
        line.post(0, 1, 1);
        line.post(0, -1, 1);
        line.post(-1, 1, 1);
        Check.due("of a terminal, not taken", Check.message(line, 0), "0 1 1 0 0 -1 -1 -1 ");
        Check.due("of the host", Check.message(line, 2), "-1 1 1 1 0 0 -1 -1 ");
        line.run(9);
        Check.due("for the host: never in a BUFFER", line.message(1, 3) + " " + line.message(1, 6) + " " + (line.message(1, 5) == line.message(1, 7)),
            "3 -1 true");
    }

    private static void rows() {
        PolledLine line = Check.loaded("terminal a;terminal b;list b;");
        for (int row = 0; row < 3; row++) {
            Check.due("an empty row " + row, line.inRow(0, row, 0), PolledLine.NONE);
        }
        line.post(0, -1, 1);
        line.post(0, -1, 1);
        int[] none = {-1, 2, 3, 40, LEAST, MOST};
        for (int index : none) {
            Check.due("inRow(0, 0, " + index + ")", line.inRow(0, 0, index), PolledLine.NONE);
        }
        Check.due("its ends", line.inRow(0, 0, 0) + " " + line.inRow(0, 0, 1), "0 1");
        int[] badTerminals = {2, LEAST, MOST};
        for (int terminal : badTerminals) {
            Check.outOfBounds(line, "inRow(" + terminal + ", 0, 0)", () -> line.inRow(terminal, 0, 0));
        }
        int[] bad = {-1, 3, LEAST, MOST};
        for (int row : bad) {
            Check.badArgument(line, "inRow(0, " + row + ", 0)", () -> line.inRow(0, row, 0));
        }
    }

    private static void places() {
        PolledLine line = Check.loaded("terminal a;terminal b;list a a a a a a a a a a a a a a a b;");
        Check.due("the ends", line.place(0) + " " + line.place(15), "0 1");
        int[] none = {-1, 16, LEAST, MOST};
        for (int place : none) {
            Check.outOfBounds(line, "place(" + place + ")", () -> line.place(place));
        }
        line.dropPlace(0);
        Check.outOfBounds(line, "place(15) of 15", () -> line.place(15));
        PolledLine empty = Check.loaded("terminal a;");
        Check.outOfBounds(empty, "place(0) of none", () -> empty.place(0));
    }

    private static void offSets() {
        PolledLine line = Check.loaded(EIGHT + "list h a b c d e f g;line 1 1 1 0;");
        Check.due("none is off", line.off(), 0);
        int[] want = {128, 129, 131, 135, 143, 159, 191, 255};
        for (int i = 0; i < 8; i++) {
            line.kill((i + 7) % 8);
            line.run(1);
            Check.due("off behind turn " + (i + 1), line.off() + " " + line.count(10), want[i] + " " + (i + 1));
        }
        for (int i = 0; i < 8; i++) {
            line.wake(i);
        }
        line.set(3, 1);
        line.run(8);
        Check.due("all are on again", line.off() + " " + line.count(10), "0 0");
    }

    private static void twentyTurns() {
        PolledLine line = Check.loaded("terminal a;");
        Check.outOfBounds(line, "turn(0, 4) of none", () -> line.turn(0, 4));
        for (int turns = 1; turns <= 45; turns++) {
            line.run(1);
            int kept = turns < 20 ? turns : 20;
            Check.due("the oldest and the latest of " + turns, line.turn(kept - 1, 4) + " " + line.turn(0, 4), (turns - kept + 1) + " " + turns);
            Check.outOfBounds(line, "one more than are kept, of " + turns, () -> line.turn(kept, 4));
        }
        int[] none = {-1, 20, 21, LEAST, MOST};
        for (int index : none) {
            Check.outOfBounds(line, "turn(" + index + ", 0)", () -> line.turn(index, 0));
        }
        int[] bad = {-1, 5, LEAST, MOST};
        for (int what : bad) {
            Check.badArgument(line, "turn(19, " + what + ")", () -> line.turn(19, what));
        }
    }

    private static void idleTurn() {
        PolledLine line = Check.loaded("terminal a;");
        line.run(1);
        Check.due("idle", Check.turn(line, 0), "3 -1 0 0 1 ");
    }

    private static void nextWhenIdle() {
        PolledLine line = Check.loaded("terminal a;");
        Check.due("idle", line.nextKind() + " " + line.nextTerminal(), "3 -1");
        line.post(0, -1, 1);
        Check.due("idle though its OUT row has a message", line.nextKind() + " " + line.nextTerminal(), "3 -1");
        line.addPlace(0);
        Check.due("a poll", line.nextKind() + " " + line.nextTerminal(), "0 0");
    }

    private static void gapIsZero() {
        PolledLine line = Check.loaded("terminal a print 9;terminal b room 1;list a b;noise 30 7;");
        Check.due("gap without messages", line.gap(), 0);
        for (int i = 0; i < 40; i++) {
            line.post(i % 3 - 1, (i + 1) % 3 - 1, 3);
        }
        for (int turns = 0; turns < 100; turns++) {
            line.run(1);
            Check.due("gap", line.gap(), 0);
        }
    }

    // ---- what would be ----

    private static void predictedTurns() {
        PolledLine line = Check.loaded("terminal a;list a;");
        for (int i = 0; i < 40; i++) {
            line.post(0, -1, 1);
        }
        Check.due("behind no turn", line.deliveredIn(0) + " " + line.timeIn(0), "0 0");
        Check.due("behind one", line.deliveredIn(1) + " " + line.timeIn(1), "1 5");
        Check.due("behind a hundred", line.deliveredIn(100) + " " + line.timeIn(100), "40 " + (40 * 5 + 60 * 4));
        int[] bad = {-1, 101, LEAST, MOST};
        for (int turns : bad) {
            Check.badArgument(line, "deliveredIn(" + turns + ")", () -> line.deliveredIn(turns));
            Check.badArgument(line, "timeIn(" + turns + ")", () -> line.timeIn(turns));
        }
        line.run(2);
        Check.due("with those that are now", line.deliveredIn(0) + " " + line.deliveredIn(1) + " " + line.timeIn(0), "2 3 10");
    }

    private static void deliversIn() {
        PolledLine line = new PolledLine();
        Check.outOfBounds(line, "deliversIn(0) of none", () -> line.deliversIn(0));
        line.post(1, -1, 1);
        Check.due("behind two turns", line.deliversIn(0), 2);
        line.run(2);
        Check.due("it is delivered", line.deliversIn(0), 0);
        int[] none = {-1, 1, 39, 40, LEAST, MOST};
        for (int message : none) {
            Check.outOfBounds(line, "deliversIn(" + message + ")", () -> line.deliversIn(message));
        }
    }

    /** A terminal that is off; its test in TURN 220 is the first one that is not garbled, and takes its message. */
    private static PolledLine testedInTurn220(int turn) {
        int tests = turn < 20 ? 10 : 9;
        PolledLine line = Check.loaded("terminal a;line 1 1 1 0;" + Check.noise(80, "x".repeat(1 + tests) + "..."));
        line.run(turn - 1);
        line.kill(0);
        line.addPlace(0);
        line.run(1);
        line.wake(0);
        line.dropPlace(0);
        line.post(0, -1, 1);
        line.set(3, 20);
        Check.due("off in TURN " + turn, line.count(4) + " " + line.off(), turn + " 1");
        return line;
    }

    private static void deliversInTwoHundred() {
        PolledLine far = testedInTurn220(19);
        Check.due("201 turns ahead", far.deliversIn(0) + " " + far.quietIn(), "-1 -1");
        far.run(1);
        Check.due("200 turns ahead", far.deliversIn(0) + " " + far.quietIn(), "200 200");
        far.run(100);
        far.run(99);
        Check.due("one turn ahead", far.deliversIn(0) + " " + far.quietIn() + " " + far.message(0, 3), "1 1 0");
        far.run(1);
        Check.due("delivered", far.deliversIn(0) + " " + far.quietIn() + " " + far.message(0, 3), "0 0 3");
    }

    private static void quietIn() {
        PolledLine line = new PolledLine();
        Check.due("without messages", line.quietIn(), 0);
        line.post(0, -1, 1);
        line.post(1, -1, 1);
        Check.due("behind two turns", line.quietIn(), 2);
        line.run(1);
        Check.due("one is delivered", line.quietIn(), 1);
        line.run(1);
        Check.due("all are delivered", line.quietIn(), 0);
        line.post(1, -1, 1);
        Check.due("a new one", line.quietIn(), 2);
    }

    private static void switchesOffInTwoHundred() {
        // Two selects of c, which is mostly busy, and a poll take turns; a is polled by each 16th poll, from the third one on.
        PolledLine line = Check.loaded("terminal a;terminal b;terminal c delay 1 room 1 print 30;list b b a b b b b b b b b b b b b b;"
            + "line 5 1 5 0;burst 2;");
        for (int i = 0; i < 40; i++) {
            line.post(-1, 2, 1);
        }
        line.kill(0);
        Check.due("201 turns ahead", line.switchesIn(0), PolledLine.NONE);
        line.run(1);
        Check.due("200 turns ahead", line.switchesIn(0), 200);
        line.run(100);
        line.run(99);
        Check.due("one turn ahead", line.switchesIn(0) + " " + line.off(), "1 0");
        line.run(1);
        Check.due("off, and never on", line.switchesIn(0) + " " + line.off(), "-1 1");
    }

    private static void switchesOnInTwoHundred() {
        PolledLine line = testedInTurn220(19);
        Check.due("201 turns ahead", line.switchesIn(0), PolledLine.NONE);
        line.run(1);
        Check.due("200 turns ahead", line.switchesIn(0), 200);
        PolledLine same = testedInTurn220(20);
        Check.due("200 turns ahead, without a test till now", same.switchesIn(0) + " " + same.account(11), "200 0");
        line.run(100);
        line.run(99);
        Check.due("one turn ahead", line.switchesIn(0) + " " + line.off(), "1 1");
        line.run(1);
        Check.due("on, and never off", line.switchesIn(0) + " " + line.off(), "-1 0");
    }

    private static PolledLine noisy(int noise, String pattern) {
        PolledLine line = Check.loaded("terminal a;list a;" + ONE_TRY + Check.noise(noise, pattern));
        line.post(0, -1, 1);
        return line;
    }

    private static void bestTries() {
        for (int tries = 1; tries <= 5; tries++) {
            Check.due("the smallest one that is enough", noisy(50, "xxxxx".substring(0, tries - 1) + "..").bestTries(1), tries);
        }
        Check.due("none is enough", noisy(60, "xxxxx").bestTries(1), 1);
        PolledLine line = noisy(50, "x..");
        Check.due("all are enough in 50 turns", line.bestTries(50), 1);
        int[] bad = {-1, 0, 51, LEAST, MOST};
        for (int turns : bad) {
            Check.badArgument(line, "bestTries(" + turns + ")", () -> line.bestTries(turns));
        }
        Check.due("TRIES stays", line.setting(1), 1);
        Check.due("without messages", new PolledLine().bestTries(1), 1);
    }

    private static void lostByNoise() {
        PolledLine line = noisy(50, "x..");
        Check.due("one more", line.lostByNoise(1), 1);
        Check.due("none more in 100 turns", line.lostByNoise(100), 0);
        int[] bad = {-1, 0, 101, LEAST, MOST};
        for (int turns : bad) {
            Check.badArgument(line, "lostByNoise(" + turns + ")", () -> line.lostByNoise(turns));
        }
        Check.due("NOISE stays", line.setting(5), 50);
        // The garbled poll's TIMEOUT gives the BUFFER the time to be done.
        PolledLine slow = Check.loaded("terminal a print 20;list a;line 20 1 5 0;" + Check.noise(20, "....x"));
        slow.post(-1, 0, 1);
        Check.due("below 0", slow.lostByNoise(2), -1);
    }

    private static void worst() {
        PolledLine line = Check.loaded(EIGHT + "list h g f;" + ONE_TRY);
        Check.due("none was", line.worst(), PolledLine.NONE);
        line.kill(7);
        line.kill(6);
        line.kill(5);
        int[] want = {7, 6, 5, 7, 6, 5};
        for (int i = 0; i < want.length; i++) {
            line.run(1);
            Check.due("behind miss " + (i + 1), line.worst(), want[i]);
        }
    }

    private static void often() {
        PolledLine line = Check.loaded("terminal a;list a;line 1 1 1 2;");
        Check.due("at first", line.often(0, 0) + " " + line.often(0, 1) + " " + line.often(0, 2) + " " + line.often(0, 3), "0 0 0 0");
        line.kill(0);
        line.post(-1, 0, 1);
        line.run(1);
        Check.due("a select that is missed", line.often(0, 0) + " " + line.often(0, 1) + " " + line.often(0, 2) + " " + line.often(0, 3), "0 1 0 1");
        line.run(1);
        Check.due("a test that is missed", line.often(0, 2) + " " + line.often(0, 3) + " " + line.worst(), "1 1 0");
        int[] none = {1, LEAST, MOST};
        for (int terminal : none) {
            Check.outOfBounds(line, "often(" + terminal + ", 0)", () -> line.often(terminal, 0));
        }
        int[] bad = {-1, 4, LEAST, MOST};
        for (int what : bad) {
            Check.badArgument(line, "often(0, " + what + ")", () -> line.often(0, what));
        }
    }

    private static void meanTime() {
        PolledLine line = new PolledLine();
        Check.due("without messages", line.meanTime(), 0.0);
        line.post(0, -1, 1);
        Check.due("none is delivered", line.meanTime(), 0.0);
        line.post(0, -1, 2);
        line.run(1);
        Check.due("one is", line.meanTime(), 4.0);
        line.run(2);
        // The second one is taken at 5 + 4 + 5.
        Check.due("a half", line.meanTime(), 9.0);
        line.post(1, -1, 2);
        line.run(1);
        Check.due("thirds", line.meanTime(), (4 + 14 + 5) / 3.0);
    }

    private static void clearShare() {
        PolledLine line = Check.loaded("terminal a;list a;" + ONE_TRY + Check.noise(70, "xx."));
        Check.due("nothing was sent", line.clearShare(), 1.0f);
        line.run(1);
        Check.due("all is garbled", line.clearShare(), 0.0f);
        line.run(1);
        line.kill(0);
        line.run(1);
        Check.due("a third is not", line.account(0) + " " + line.clearShare(), "3 " + 1.0f / 3.0f);
        PolledLine idle = Check.loaded("terminal a;");
        idle.run(5);
        Check.due("idle turns send nothing", idle.clearShare(), 1.0f);
    }

    // ---- changes ----

    private static void post() {
        PolledLine line = new PolledLine();
        Check.due("the ends of LENGTH", line.post(0, -1, 1) + " " + line.post(-1, 1, 20), "0 1");
        int[] bad = {0, 21, -1, LEAST, MOST};
        for (int length : bad) {
            Check.badArgument(line, "post(0, 1, " + length + ")", () -> line.post(0, 1, length));
        }
        int[] none = {2, -2, LEAST, MOST};
        for (int terminal : none) {
            Check.outOfBounds(line, "post(" + terminal + ", 0, 1)", () -> line.post(terminal, 0, 1));
            Check.outOfBounds(line, "post(0, " + terminal + ", 1)", () -> line.post(0, terminal, 1));
        }
        for (int same = -1; same < 2; same++) {
            int who = same;
            Check.badArgument(line, "post(" + who + ", " + who + ", 1)", () -> line.post(who, who, 1));
        }
        for (int i = 2; i < 40; i++) {
            line.post(1, 0, 1);
        }
        illegalState(line, "a 41st message", () -> line.post(1, 0, 1));
        line.undo();
        Check.due("the 40th once more", line.post(0, 1, 1), 39);
    }

    private static void killAndWake() {
        PolledLine line = Check.loaded(EIGHT);
        Check.due("alive, then dead", line.kill(7) + " " + line.kill(7) + " " + line.wake(7) + " " + line.wake(7), "1 0 0 1");
        int[] none = {8, LEAST, MOST};
        for (int terminal : none) {
            Check.outOfBounds(line, "kill(" + terminal + ")", () -> line.kill(terminal));
            Check.outOfBounds(line, "wake(" + terminal + ")", () -> line.wake(terminal));
        }
        for (int i = 0; i < 8; i++) {
            line.kill(i);
        }
        Check.due("all are dead", line.count(11), 8);
    }

    private static void run() {
        PolledLine line = Check.loaded("terminal a;list a;");
        line.post(0, -1, 1);
        Check.due("one turn, one message", line.run(1), 1);
        Check.due("a hundred turns, no message", line.run(100) + " " + line.count(4), "0 101");
        int[] bad = {0, 101, -1, LEAST, MOST};
        for (int turns : bad) {
            Check.badArgument(line, "run(" + turns + ")", () -> line.run(turns));
        }
    }

    private static void runToTheLastTurn() {
        PolledLine line = Check.loaded("terminal a;");
        for (int i = 0; i < 99; i++) {
            line.run(100);
        }
        Check.badArgument(line, "to TURN 10000", () -> line.run(100));
        line.run(99);
        Check.due("to TURN 9999", line.count(4), 9999);
        Check.badArgument(line, "beyond it", () -> line.run(1));
        Check.due("what would be goes on", line.timeIn(1) + " " + line.timeIn(100), "10000 10099");
    }

    private static void addPlace() {
        PolledLine line = Check.loaded("terminal a;");
        for (int places = 1; places <= 16; places++) {
            Check.due("addPlace", line.addPlace(0), places);
        }
        illegalState(line, "a 17th place", () -> line.addPlace(0));
        int[] none = {1, LEAST, MOST};
        for (int terminal : none) {
            Check.outOfBounds(line, "addPlace(" + terminal + ")", () -> line.addPlace(terminal));
        }
        line.dropPlace(15);
        Check.due("a place is free again", line.addPlace(0), 16);
    }

    private static void dropPlace() {
        PolledLine line = Check.loaded(EIGHT + "list a b c d e f g h h g f e d c b a;");
        Check.due("the last one of 16", line.dropPlace(15) + " " + line.count(1), "0 15");
        int[] none = {-1, 15, LEAST, MOST};
        for (int place : none) {
            Check.outOfBounds(line, "dropPlace(" + place + ")", () -> line.dropPlace(place));
        }
        Check.due("the first one", line.dropPlace(0) + " " + line.place(0) + " " + line.place(13), "0 1 1");
        PolledLine one = Check.loaded("terminal a;list a;");
        Check.due("the only one", one.dropPlace(0) + " " + one.count(1), "0 0");
        Check.outOfBounds(one, "dropPlace(0) of none", () -> one.dropPlace(0));
    }

    private static void set() {
        int[] low = {1, 1, 1, 0, 0, 0};
        int[] high = {20, 5, 5, 20, 5, 99};
        PolledLine line = new PolledLine();
        for (int i = 0; i < 6; i++) {
            int setting = i;
            line.set(i, low[i]);
            Check.due("from the smallest to the greatest", line.set(i, high[i]) + " " + line.setting(i), low[i] + " " + high[i]);
            int[] bad = {low[i] - 1, high[i] + 1, LEAST, MOST};
            for (int value : bad) {
                Check.badArgument(line, "set(" + i + ", " + value + ")", () -> line.set(setting, value));
            }
        }
        int[] none = {-1, 6, LEAST, MOST};
        for (int setting : none) {
            Check.badArgument(line, "set(" + setting + ", 1)", () -> line.set(setting, 1));
        }
    }

    private static void undo() {
        PolledLine line = new PolledLine();
        noSuchElement(line, "nothing to undo", () -> line.undo());
        line.kill(0);
        Check.due("one change", line.undo(), 0);
        noSuchElement(line, "nothing more to undo", () -> line.undo());
        line.printList();
        line.kill(0);
        line.printTerminals();
        Check.playFails(line, "kil", PolledLine.SYNTAX, 0);
        Check.feed(line, "kill");
        line.undo();
        Check.due("the input buffer, the error and the output stay", line.truncateInput(5) + " " + line.truncateInput(4) + " " + line.errorCode() + " "
            + Check.output(line), "false true 1 ax:0/0/0 b:0/0/0");
    }

    // ---- the output, the saved state ----

    private static void longestTerminals() {
        String setup = "";
        String list = "list";
        for (char c = 'a'; c <= 'h'; c++) {
            String name = ("" + c).repeat(6);
            setup += "terminal " + name + ";";
            list += " " + name;
        }
        PolledLine line = Check.loaded(setup + list + ";line 1 1 1 0;");
        String want = "";
        for (int i = 0; i < 8; i++) {
            line.kill(i);
            for (int j = 0; j < 10 && i % 2 == 0; j++) {
                line.post(i, i + 1, 1);
            }
            want += (i == 0 ? "" : " ") + ("" + (char) ('a' + i)).repeat(6) + "-x:" + (i % 2 == 0 ? "10" : "0") + "/0/0";
        }
        line.run(8);
        Check.due("eight terminals, all off and dead", line.printTerminals() + Check.output(line), want.length() + want);
        Check.due("none is behind", line.outputByte(want.length() - 1) + " " + line.outputByte(want.length()), "48 -1");
        PolledLine numbers = Check.loaded("terminal a;");
        for (int i = 0; i < 40; i++) {
            numbers.printTerminals();
            Check.due("a number", Check.output(numbers), "a:0/" + i + "/0");
            numbers.post(-1, 0, 1);
        }
        numbers.printTerminals();
        Check.due("the greatest one", Check.output(numbers), "a:0/40/0");
    }

    private static void longestList() {
        PolledLine line = Check.loaded("terminal zzzzzz;");
        Check.due("an empty LIST", line.printList() + " " + line.outputByte(0), "0 -1");
        String want = "";
        for (int i = 0; i < 16; i++) {
            line.addPlace(0);
            want += (i == 0 ? "" : " ") + "zzzzzz";
            Check.due("printList", line.printList() + Check.output(line), want.length() + want);
        }
    }

    private static void outputBytes() {
        PolledLine line = new PolledLine();
        Check.due("nothing was printed", line.outputByte(0), -1);
        line.printTerminals();
        Check.due("15 bytes", line.outputByte(0) + " " + line.outputByte(14) + " " + line.outputByte(15), "97 48 -1");
        line.printList();
        int[] none = {3, 14, 15, -1, 159, 160, LEAST, MOST};
        for (int index : none) {
            Check.due("outputByte(" + index + ") of 3", line.outputByte(index), -1);
        }
        Check.due("3 bytes", line.outputByte(0) + " " + line.outputByte(1) + " " + line.outputByte(2), "97 32 98");
    }

    private static void saveState() {
        PolledLine line = new PolledLine();
        Check.due("TIME 0", line.saveState(), 0);
        line.run(3);
        Check.due("TIME", line.saveState() + " " + line.count(3), "12 12");
        Check.due("it is no change", line.count(12), 1);
        line.undo();
        Check.due("in place of the earlier one", line.restoreState() + " " + line.count(4), "12 3");
    }

    private static void restoreState() {
        PolledLine line = new PolledLine();
        noSuchElement(line, "no state is saved", () -> line.restoreState());
        line.run(2);
        line.saveState();
        for (int i = 0; i < 3; i++) {
            line.run(4 + i);
            Check.due("the saved state stays saved", line.restoreState() + " " + line.count(4), "8 2");
            noSuchElement(line, "nothing can be undone", () -> line.undo());
        }
        line.kill(0);
        line.printTerminals();
        Check.playFails(line, "kill c;", PolledLine.UNKNOWN, 5);
        Check.feed(line, "kill");
        line.restoreState();
        Check.due("the input buffer, the error and the output stay", line.truncateInput(5) + " " + line.truncateInput(4) + " " + line.errorCode() + " " + Check.output(line),
            "false true 3 ax:0/0/0 b:0/0/0");
        line.truncateInput(0);
        Check.feed(line, "terminal a;");
        line.loadLine();
        noSuchElement(line, "a load leaves no saved state", () -> line.restoreState());
    }
}
