/** Terms 1 to 4: one test for each sentence that names a boundary case, as BOUNDARIES.md lists them. */
public final class BoundaryTermsTest {
    /** No noise, no tests, one try: what is dead is missed in one turn. */
    private static final String ONE_TRY = "line 5 1 5 0;";
    private static final String EIGHT = "terminal a;terminal b;terminal c;terminal d;terminal e;terminal f;terminal g;terminal h;";

    public static void main(String[] args) {
        oneToEightTerminals();
        aliveAndOnAtFirst();
        severalTimesOrNotAtAll();
        fortyMessages();
        fortyMessagesInOneRow();
        deliveredPrintTicksLater();
        firstAsTheOneAheadIsDelivered();
        intoABufferThatIsJustEmptied();
        deadPrinterDelivers();
        bitsGoRound();
        lengthsInTicks();
        seedGoesRound();
        seedAtFirst();
        garbledBelowNoise();
        atMostTries();
        theLastTryIsDone();
        timeoutAndDelay();
        negativeAnswerGarbled();
        staysFirstOfTheOutRow();
        readyBelowRoom();
        offAtLimit();
        limitBelowMisses();
        missesEndWhenDone();
        onWhenATestIsDone();
        reviveZero();
        reviveTwenty();
        noTestWithoutOneThatIsOff();
        ringOfTests();
        missedTestLeavesMisses();
        burstSinceTheBeginning();
        burstThatIsSet();
        missedPollIsAPoll();
        ringOfSelects();
        ringOfSixteenPlaces();
        ringsOfOne();
        nobodyOfTheListIsOn();
        emptyList();
        placePolledLast();
        Check.end();
    }

    private static void oneToEightTerminals() {
        PolledLine line = new PolledLine();
        Check.feed(line, "terminal a;");
        Check.due("one terminal", line.loadLine(), 1);
        Check.due("it has the number 0", line.nameLetter(0, 0), 1);
        Check.outOfBounds(line, "terminal 1 of 1", () -> line.nameLetter(1, 0));
        Check.feed(line, EIGHT);
        Check.due("eight terminals", line.loadLine(), 8);
        Check.due("the last one has the number 7", line.nameLetter(7, 0), 8);
        Check.outOfBounds(line, "terminal 8 of 8", () -> line.nameLetter(8, 0));
        Check.loadFails("burst 1;", PolledLine.SYNTAX, 8);
        Check.loadFails(EIGHT + "terminal i;", PolledLine.TOO_MANY, 88);
    }

    private static void aliveAndOnAtFirst() {
        PolledLine line = Check.loaded(EIGHT);
        for (int i = 0; i < 8; i++) {
            Check.due("alive, on, MISSES, " + i, line.terminal(i, 3) + " " + line.terminal(i, 4) + " " + line.terminal(i, 5), "1 1 0");
        }
    }

    private static void severalTimesOrNotAtAll() {
        PolledLine line = Check.loaded("terminal a;terminal b;terminal c;list b b b b b b b b b b b b b b b a;");
        Check.due("places of a, b and c", line.terminal(0, 9) + " " + line.terminal(1, 9) + " " + line.terminal(2, 9), "1 15 0");
        Check.due("the 16th place", line.place(15), 0);
    }

    private static void fortyMessages() {
        PolledLine line = new PolledLine();
        for (int i = 0; i < 40; i++) {
            Check.due("the number of a message", line.post(i % 2, -1, 1), i);
        }
        Check.throwsOnly(line, "a 41st message", IllegalStateException.class, () -> line.post(0, 1, 1));
        line.run(50);
        Check.due("all are delivered", line.count(9), 40);
        Check.throwsOnly(line, "delivered ones are counted, too", IllegalStateException.class, () -> line.post(-1, 1, 1));
    }

    private static void fortyMessagesInOneRow() {
        PolledLine out = Check.loaded("terminal a;list a;");
        PolledLine host = Check.loaded("terminal a print 0;");
        for (int i = 0; i < 40; i++) {
            out.post(0, -1, 1);
            host.post(-1, 0, 1);
        }
        Check.due("the ends of the OUT row", out.inRow(0, 0, 0) + " " + out.inRow(0, 0, 39) + " " + out.inRow(0, 0, 40), "0 39 -1");
        Check.due("the ends of the host's row", host.inRow(0, 1, 0) + " " + host.inRow(0, 1, 39) + " " + host.inRow(0, 1, 40), "0 39 -1");
        for (int i = 0; i < 40; i++) {
            Check.due("first of the rows", out.inRow(0, 0, 0) + " " + host.inRow(0, 1, 0), i + " " + i);
            Check.due("delivered in a turn", out.run(1) + host.run(1), 2);
        }
        Check.due("rows that became empty", out.inRow(0, 0, 0) + " " + host.inRow(0, 1, 0), "-1 -1");
    }

    private static void deliveredPrintTicksLater() {
        // A select takes 1 + 2 + 1 + 1 + 1 ticks: the message is in the BUFFER at 5; idle turns go on from 6.
        int[] prints = {0, 1, 2, 30};
        for (int print : prints) {
            PolledLine line = Check.loaded("terminal a print " + print + ";");
            line.post(-1, 0, 1);
            line.run(1);
            if (print >= 2) {
                if (print > 2) {
                    line.run(print - 2);
                }
                Check.due("a tick ahead of PRINT " + print, line.count(3) + " " + line.message(0, 3) + " " + line.message(0, 7) + " "
                    + line.terminal(0, 8), (4 + print) + " 2 -1 1");
                line.run(1);
            }
            Check.due("PRINT " + print, line.message(0, 3) + " " + line.message(0, 7) + " " + line.terminal(0, 8), "3 " + (5 + print) + " 0");
        }
    }

    private static void firstAsTheOneAheadIsDelivered() {
        // In the BUFFER at 5 and 11; the first one is delivered at 35, and the second one becomes the first one then.
        PolledLine line = Check.loaded("terminal a print 30;burst 5;");
        line.post(-1, 0, 1);
        line.post(-1, 0, 1);
        line.run(2);
        Check.due("TIME", line.count(3), 12);
        line.run(52);
        Check.due("a tick ahead", line.count(3) + " " + line.count(9) + " " + line.inRow(0, 2, 0), "64 1 1");
        line.run(1);
        Check.due("PRINT ticks behind the one ahead", line.count(9) + " " + line.message(1, 7), "2 65");
    }

    private static void intoABufferThatIsJustEmptied() {
        // The second one comes at 11: behind, with and ahead of the first one's delivery.
        int[] prints = {5, 6, 7};
        int[] want = {16, 17, 19};
        for (int i = 0; i < prints.length; i++) {
            PolledLine line = Check.loaded("terminal a print " + prints[i] + ";burst 5;");
            line.post(-1, 0, 1);
            line.post(-1, 0, 1);
            line.run(12);
            Check.due("PRINT " + prints[i], line.message(1, 6) + " " + line.message(1, 7), "11 " + want[i]);
        }
    }

    private static void deadPrinterDelivers() {
        PolledLine line = Check.loaded("terminal a print 3;");
        line.post(-1, 0, 1);
        line.run(1);
        line.kill(0);
        line.run(1);
        Check.due("not yet", line.count(3) + " " + line.message(0, 3), "7 2");
        line.run(1);
        Check.due("delivered though it is dead", line.message(0, 3) + " " + line.message(0, 7), "3 8");
        PolledLine late = Check.loaded("terminal a print 3;terminal b delay 9;list b;");
        late.post(-1, 0, 1);
        late.post(1, -1, 20);
        late.run(1);
        late.kill(0);
        late.run(1);
        Check.due("as if at that time", late.count(3) + " " + late.message(0, 7), "37 8");
    }

    private static void bitsGoRound() {
        PolledLine line = Check.loaded("terminal a print 0;list a;");
        line.post(0, -1, 1);
        line.post(0, -1, 1);
        line.post(-1, 0, 1);
        line.post(-1, 0, 1);
        String[] want = {"0 1 1 0", "1 1 1 1", "1 0 0 1", "0 0 0 0"};
        for (int i = 0; i < 4; i++) {
            line.run(1);
            Check.due("bits behind turn " + (i + 1), line.terminal(0, 10) + " " + line.terminal(0, 11) + " " + line.terminal(0, 12) + " "
                + line.terminal(0, 13), want[i]);
        }
    }

    private static void lengthsInTicks() {
        int[] lengths = {1, 20};
        for (int length : lengths) {
            PolledLine line = Check.loaded("terminal a;list a;");
            line.post(0, -1, length);
            line.run(1);
            Check.due("a poll with LENGTH " + length, line.count(3), 4 + length);
            line.post(-1, 0, length);
            line.run(1);
            Check.due("a select with LENGTH " + length, line.count(3), 9 + 2 * length);
        }
    }

    /** A line on which just one thing is sent in the next turn. */
    private static PolledLine oneThing(int noise, int seed) {
        PolledLine line = Check.loaded("terminal a;list a;" + ONE_TRY + "noise " + noise + " " + seed + ";");
        line.kill(0);
        return line;
    }

    private static void seedGoesRound() {
        int[] seeds = {0, 872, 873, 9999};
        int[] want = {74, 65474, 12, 29092};
        for (int i = 0; i < seeds.length; i++) {
            PolledLine line = oneThing(0, seeds[i]);
            line.run(1);
            Check.due("behind SEED " + seeds[i], line.count(5), want[i]);
        }
        // The 16th thing that is sent behind the SEED 5525 has the SEED 0.
        PolledLine zero = Check.loaded("terminal a;list a;line 1 5 5 0;noise 1 5525;");
        zero.kill(0);
        zero.run(3);
        zero.set(1, 1);
        int garbled = zero.account(1);
        zero.run(1);
        Check.due("SEED 0 is below NOISE 1", zero.count(5) + " " + zero.account(0) + " " + (zero.account(1) - garbled), "0 16 1");
        zero.run(1);
        Check.due("behind SEED 0", zero.count(5) + " " + (zero.account(1) - garbled), "74 1");
    }

    private static void seedAtFirst() {
        Check.due("not told", Check.loaded("terminal a;").count(5), 1);
        Check.due("smallest", Check.loaded("terminal a;noise 0 0;").count(5), 0);
        Check.due("greatest", Check.loaded("terminal a;noise 0 9999;").count(5), 9999);
        Check.loadFails("terminal a;noise 0 10000;", PolledLine.SYNTAX, 19);
    }

    private static void garbledBelowNoise() {
        int[] noises = {0, 1, 1, 50, 50, 99, 99};
        int[] remainders = {0, 0, 1, 49, 50, 98, 99};
        int[] want = {0, 1, 0, 1, 0, 1, 0};
        for (int i = 0; i < noises.length; i++) {
            int first = 0;
            while (next(next(first)) % 100 != remainders[i]) {
                first++;
            }
            PolledLine line = oneThing(0, first);
            line.run(1);
            line.set(5, noises[i]);
            line.run(1);
            Check.due("NOISE " + noises[i] + ", remainder " + remainders[i], line.account(0) + " " + line.account(1), "2 " + want[i]);
        }
    }

    private static int next(int seed) {
        return (75 * seed + 74) % 65537;
    }

    private static void atMostTries() {
        for (int tries = 1; tries <= 5; tries++) {
            PolledLine line = Check.loaded("terminal a;list a;line 5 " + tries + " 5 0;");
            line.kill(0);
            line.run(1);
            Check.due("a poll with TRIES " + tries, Check.turn(line, 0), "0 0 0 " + tries + " " + 6 * tries + " ");
            line.post(-1, 0, 1);
            line.run(1);
            Check.due("a select with TRIES " + tries, Check.turn(line, 0), "1 0 0 " + tries + " " + 12 * tries + " ");
        }
    }

    private static void theLastTryIsDone() {
        for (int tries = 1; tries <= 5; tries++) {
            String setup = "terminal a;list a;line 5 " + tries + " 5 0;";
            String failed = "xxxxx".substring(0, tries - 1);
            PolledLine line = Check.loaded(setup + Check.noise(50, failed + ".."));
            line.run(1);
            Check.due("the last try of " + tries, line.turn(0, 2) + " " + line.turn(0, 3) + " " + line.account(8), "1 " + tries + " 0");
            PolledLine missed = Check.loaded(setup + Check.noise(50, failed + "x.."));
            missed.run(1);
            Check.due("no try more than " + tries, missed.turn(0, 2) + " " + missed.turn(0, 3) + " " + missed.account(8), "0 " + tries + " 1");
        }
    }

    private static void timeoutAndDelay() {
        int[] timeouts = {1, 20};
        for (int timeout : timeouts) {
            PolledLine line = Check.loaded("terminal a;list a;line " + timeout + " 1 5 0;");
            line.kill(0);
            line.run(1);
            Check.due("TIMEOUT " + timeout, line.count(3), 1 + timeout);
        }
        int[] delays = {1, 9};
        for (int delay : delays) {
            PolledLine line = Check.loaded("terminal a delay " + delay + ";list a;");
            line.run(1);
            Check.due("DELAY " + delay, line.count(3), 2 + delay);
        }
    }

    private static void negativeAnswerGarbled() {
        String[] patterns = {".x.", ".xx"};
        for (String pattern : patterns) {
            PolledLine line = Check.loaded("terminal a;list a;" + ONE_TRY + Check.noise(30, pattern));
            line.post(0, -1, 4);
            line.run(1);
            Check.due("a negative answer, " + pattern, Check.turn(line, 0) + line.account(0) + " " + line.account(7) + " " + line.account(10),
                "0 0 0 1 8 3 1 1");
        }
    }

    private static void staysFirstOfTheOutRow() {
        PolledLine line = Check.loaded("terminal a;terminal b;list a;" + ONE_TRY + Check.noise(20, "..x" + "...x" + "..x"));
        line.post(0, 1, 1);
        line.post(0, -1, 1);
        line.run(1);
        Check.due("state 1", line.message(0, 3) + " " + line.inRow(0, 0, 0) + " " + line.inRow(1, 1, 0) + " " + line.inRow(1, 2, 0), "1 0 0 -1");
        line.run(1);
        Check.due("state 2", line.message(0, 3) + " " + line.inRow(0, 0, 0) + " " + line.inRow(1, 1, 0) + " " + line.inRow(1, 2, 0), "2 0 0 0");
        Check.due("in three rows", Check.counts(line).substring(0, 6) + line.count(8) + " " + line.gap(), "2 1 2 1 0");
        line.printTerminals();
        Check.due("printed in each row", Check.output(line), "a:2/0/0 b:0/1/1");
        line.run(1);
        Check.due("state 3", line.message(0, 3) + " " + line.inRow(0, 0, 0) + " " + line.inRow(1, 1, 0) + " " + line.inRow(1, 2, 0), "3 0 0 -1");
        line.set(5, 0);
        line.run(1);
        Check.due("a copy for b", line.inRow(0, 0, 0) + " " + line.inRow(1, 1, 0) + " " + line.account(4) + " " + line.count(9), "0 -1 2 1");
        line.run(1);
        Check.due("a positive answer for a", line.inRow(0, 0, 0) + " " + line.account(4) + " " + line.count(9), "1 3 1");
        PolledLine host = Check.loaded("terminal a;list a;" + ONE_TRY + Check.noise(20, "..x"));
        host.post(0, -1, 1);
        host.run(1);
        Check.due("delivered to the host, and kept", host.message(0, 3) + " " + host.inRow(0, 0, 0), "3 0");
        host.set(5, 0);
        host.run(1);
        Check.due("taken out, and not delivered again", host.inRow(0, 0, 0) + " " + host.message(0, 7) + " " + host.count(9), "-1 4 1");
    }

    private static void readyBelowRoom() {
        for (int room = 1; room <= 4; room++) {
            PolledLine line = Check.loaded("terminal a room " + room + " print 30;burst 5;");
            for (int i = 0; i <= room; i++) {
                line.post(-1, 0, 1);
            }
            line.run(room);
            Check.due("one less than ROOM " + room, line.turn(0, 2) + " " + line.terminal(0, 8), "2 " + room);
            line.run(1);
            Check.due("as many as ROOM " + room, line.turn(0, 2) + " " + line.terminal(0, 8) + " " + line.account(6), "4 " + room + " 1");
            line.run(15);
            Check.due("behind the first one's delivery, ROOM " + room, line.terminal(0, 7), 0);
        }
    }

    private static void offAtLimit() {
        for (int limit = 1; limit <= 5; limit++) {
            PolledLine line = Check.loaded("terminal a;list a;line 1 1 " + limit + " 0;");
            line.kill(0);
            for (int misses = 1; misses < limit; misses++) {
                line.run(1);
                Check.due("below LIMIT " + limit, line.terminal(0, 5) + " " + line.terminal(0, 4) + " " + line.account(9), misses + " 1 0");
            }
            line.run(1);
            Check.due("at LIMIT " + limit, line.terminal(0, 5) + " " + line.terminal(0, 4) + " " + line.account(9), limit + " 0 1");
            line.run(5);
            Check.due("neither missed nor taken off again", line.terminal(0, 5) + " " + line.account(8) + " " + line.account(9), limit + " " + limit + " 1");
        }
    }

    private static void limitBelowMisses() {
        PolledLine line = Check.loaded("terminal a;list a;" + ONE_TRY);
        line.kill(0);
        line.run(4);
        line.set(2, 2);
        Check.due("it stays on", line.off() + " " + line.terminal(0, 5), "0 4");
        line.run(1);
        Check.due("more than LIMIT", line.off() + " " + line.terminal(0, 5), "1 5");
    }

    private static void missesEndWhenDone() {
        PolledLine line = Check.loaded("terminal a room 1 print 30;list a;" + ONE_TRY + "burst 0;");
        line.kill(0);
        line.run(4);
        line.wake(0);
        line.run(1);
        Check.due("a poll with nothing", line.turn(0, 2) + " " + line.terminal(0, 5), "1 0");
        line.kill(0);
        line.run(4);
        Check.due("missed anew", line.terminal(0, 5) + " " + line.off(), "4 0");
        line.wake(0);
        line.post(0, -1, 1);
        line.run(1);
        Check.due("a poll that is taken", line.turn(0, 2) + " " + line.terminal(0, 5), "2 0");
        line.kill(0);
        line.run(1);
        line.wake(0);
        line.dropPlace(0);
        line.post(-1, 0, 1);
        line.post(-1, 0, 1);
        line.run(1);
        Check.due("a select that is taken", line.turn(0, 2) + " " + line.terminal(0, 5), "2 0");
        line.kill(0);
        line.run(1);
        Check.due("missed", line.terminal(0, 5), 1);
        line.wake(0);
        line.run(1);
        Check.due("a select that is busy", line.turn(0, 2) + " " + line.terminal(0, 5), "4 0");
        PolledLine copy = Check.loaded("terminal a;list a;" + ONE_TRY + Check.noise(20, "..x" + "." + "..x"));
        copy.post(0, -1, 1);
        copy.run(1);
        copy.kill(0);
        copy.run(1);
        Check.due("missed behind a message", copy.terminal(0, 5), 1);
        copy.wake(0);
        copy.run(1);
        Check.due("a poll with a copy", copy.turn(0, 2) + " " + copy.terminal(0, 5), "3 0");
    }

    /** A test that ends with nothing, with a message or with a copy: each puts the terminal on, also if the answer is garbled. */
    private static void onWhenATestIsDone() {
        String[] patterns = {"." + "..", "." + "..x", "..x" + "." + "..x"};
        for (int result = 1; result <= 3; result++) {
            PolledLine line = Check.loaded("terminal a;list a;line 5 1 1 0;" + Check.noise(20, patterns[result - 1]));
            if (result > 1) {
                line.post(0, -1, 1);
            }
            if (result > 2) {
                line.run(1);
            }
            line.kill(0);
            line.run(1);
            Check.due("off", line.off() + " " + line.terminal(0, 5), "1 1");
            line.wake(0);
            line.set(3, 1);
            line.run(1);
            Check.due("a test with the result " + result, line.turn(0, 0) + " " + line.turn(0, 2) + " " + line.off() + " " + line.terminal(0, 5),
                "2 " + result + " 0 0");
        }
    }

    private static PolledLine off(String more) {
        PolledLine line = Check.loaded("terminal a;list a;" + more);
        line.kill(0);
        line.run(1);
        Check.due("off", line.off(), 1);
        return line;
    }

    private static void reviveZero() {
        PolledLine line = off("line 1 1 1 0;");
        line.wake(0);
        line.run(100);
        Check.due("REVIVE 0", line.account(11) + " " + line.off() + " " + line.switchesIn(0) + " " + line.account(12), "0 1 -1 100");
    }

    private static void reviveTwenty() {
        PolledLine line = off("line 1 1 1 20;");
        line.run(18);
        Check.due("TURN 19", line.count(4) + " " + line.account(11) + " " + line.nextKind(), "19 0 2");
        line.run(1);
        Check.due("TURN 20", line.account(11) + " " + line.nextKind(), "1 3");
        line.run(19);
        Check.due("TURN 39", line.account(11) + " " + line.nextKind(), "1 2");
        line.run(1);
        Check.due("TURN 40", line.account(11), 2);
    }

    private static void noTestWithoutOneThatIsOff() {
        PolledLine line = Check.loaded("terminal a;terminal b;list a b;line 1 1 1 1;");
        line.run(4);
        Check.due("no terminal is off", line.account(11) + " " + line.account(2), "0 4");
    }

    private static void ringOfTests() {
        PolledLine line = Check.loaded(EIGHT + "list a b c d e f g h;line 1 1 1 0;");
        for (int i = 0; i < 8; i++) {
            line.kill(i);
        }
        line.run(8);
        Check.due("all are off", line.off() + " " + line.count(10) + " " + line.count(11), "255 8 8");
        line.set(3, 1);
        for (int i = 0; i < 17; i++) {
            Check.due("the next one to test", line.nextKind() + " " + line.nextTerminal(), "2 " + i % 8);
            line.run(1);
        }
        line.wake(1);
        line.run(1);
        Check.due("1 is on", line.off(), 253);
        line.run(7);
        Check.due("one that is on is passed over", line.nextTerminal() + " " + line.often(1, 2), "2 3");
    }

    private static void missedTestLeavesMisses() {
        PolledLine line = Check.loaded("terminal a;list a;line 1 1 3 1;");
        line.kill(0);
        line.run(3);
        Check.due("off", line.off() + " " + line.terminal(0, 5), "1 3");
        line.run(5);
        Check.due("behind missed tests", line.off() + " " + line.terminal(0, 5) + " " + line.account(8) + " " + line.account(9) + " "
            + line.often(0, 3) + " " + line.often(0, 2), "1 3 3 1 3 5");
    }

    private static String kinds(PolledLine line, int turns) {
        StringBuilder text = new StringBuilder();
        for (int i = 0; i < turns; i++) {
            line.run(1);
            text.append(line.turn(0, 0)).append(line.turn(0, 1)).append(' ');
        }
        return text.toString();
    }

    private static void burstSinceTheBeginning() {
        for (int burst = 0; burst <= 5; burst++) {
            PolledLine line = Check.loaded("terminal a print 0;terminal b;list b;burst " + burst + ";");
            for (int i = 0; i < 12; i++) {
                line.post(-1, 0, 1);
            }
            String selects = "10 10 10 10 10 ".substring(0, 3 * burst) + "01 ";
            Check.due("BURST " + burst, kinds(line, 2 * burst + 2), selects + selects);
        }
    }

    private static void burstThatIsSet() {
        PolledLine line = Check.loaded("terminal a room 4;terminal b;list b;burst 5;");
        for (int i = 0; i < 6; i++) {
            line.post(-1, 0, 1);
        }
        line.run(3);
        String kinds = "";
        for (int burst = 0; burst <= 5; burst++) {
            line.set(4, burst);
            kinds += line.nextKind();
        }
        Check.due("behind three selects, BURST 0 to 5", kinds, "000011");
    }

    private static void missedPollIsAPoll() {
        PolledLine line = Check.loaded("terminal a;terminal b;list b;" + ONE_TRY);
        line.kill(1);
        line.post(-1, 0, 1);
        line.post(-1, 0, 1);
        Check.due("a missed poll", kinds(line, 4) + line.account(8), "10 01 10 01 2");
        PolledLine missed = Check.loaded("terminal a;terminal b;list b;" + ONE_TRY);
        missed.kill(0);
        missed.post(-1, 0, 1);
        Check.due("a missed select", kinds(missed, 4) + missed.account(8), "10 01 10 01 2");
    }

    private static void ringOfSelects() {
        PolledLine line = Check.loaded(EIGHT);
        line.post(-1, 7, 1);
        Check.due("the last terminal", kinds(line, 1), "17 ");
        line.post(-1, 7, 1);
        line.post(-1, 6, 1);
        line.post(-1, 0, 1);
        Check.due("behind the last one", kinds(line, 4), "10 16 17 3-1 ");
    }

    private static void ringOfSixteenPlaces() {
        PolledLine line = Check.loaded(EIGHT + "list a b c d e f g h h g f e d c b a;");
        Check.due("16 places, and the first one again", kinds(line, 17), "00 01 02 03 04 05 06 07 07 06 05 04 03 02 01 00 00 ");
    }

    private static void ringsOfOne() {
        PolledLine line = Check.loaded("terminal a print 0;list a;line 1 1 1 1;burst 2;");
        line.post(-1, 0, 1);
        line.post(-1, 0, 1);
        Check.due("selects and polls of one", kinds(line, 4), "10 10 00 00 ");
        line.kill(0);
        Check.due("tests of one", kinds(line, 3), "00 20 20 ");
    }

    private static void nobodyOfTheListIsOn() {
        PolledLine line = Check.loaded("terminal a;terminal b;list b b;line 1 1 1 0;burst 0;");
        line.kill(1);
        line.run(1);
        Check.due("nobody is on, and nothing is there", line.nextKind() + " " + line.nextTerminal(), "3 -1");
        line.post(-1, 0, 1);
        line.post(-1, 1, 1);
        Check.due("a select by (4), of one that is on, then idle", kinds(line, 2), "10 3-1 ");
    }

    private static void emptyList() {
        PolledLine line = Check.loaded("terminal a;");
        line.post(0, -1, 1);
        line.run(1);
        Check.due("idle", Check.turn(line, 0) + line.count(3) + " " + line.account(0) + " " + line.account(12), "3 -1 0 0 1 1 0 1");
        line.post(-1, 0, 1);
        line.post(-1, 0, 1);
        Check.due("however many selects were made", kinds(line, 3), "10 10 3-1 ");
    }

    private static void placePolledLast() {
        PolledLine line = Check.loaded("terminal a;terminal b;terminal c;list a b c;");
        line.run(3);
        line.dropPlace(2);
        Check.due("no such place, the last one instead", line.nextTerminal(), 0);
        line.addPlace(1);
        Check.due("there is such a place again", line.nextTerminal(), 0);
        line.addPlace(2);
        Check.due("behind that place", line.nextTerminal(), 2);
        line.dropPlace(0);
        Check.due("that place, whatever it has", line.nextTerminal(), 1);
        line.dropPlace(2);
        line.dropPlace(1);
        line.dropPlace(0);
        Check.due("no place at all", line.nextKind(), 3);
        line.addPlace(2);
        Check.due("the only place", line.nextTerminal(), 2);
        PolledLine first = Check.loaded("terminal a;terminal b;list a b;");
        first.dropPlace(0);
        first.addPlace(0);
        Check.due("from 0 on at first", first.nextTerminal(), 1);
    }
}
