/** Promise 35 by what the terms say of tries, turns and BUFFERs: each thing that can be garbled, each rule of a turn. */
public final class TurnsTest {
    public static void main(String[] args) {
        pollTries();
        pollWithoutMessage();
        pollCopy();
        selectTries();
        selectCopy();
        busy();
        readyBehindDelay();
        buffers();
        deadTerminals();
        missesAndLimit();
        tests();
        testsGarbled();
        burst();
        ringOfSelects();
        ringOfPlaces();
        placesAndChangesOfTheList();
        seeds();
        Check.end();
    }

    /** TIME, the accounts and the latest turn behind one turn with that noise, and a message for or of a. */
    private static String once(String more, String pattern, boolean select) {
        PolledLine line = Check.loaded("terminal a;list a;" + more + Check.noise(20, pattern));
        if (select) {
            line.post(-1, 0, 4);
        } else {
            line.post(0, -1, 4);
        }
        line.run(1);
        return line.count(3) + ": " + Check.accounts(line) + ": " + Check.turn(line, 0);
    }

    private static void pollTries() {
        Check.due("poll", once("", "...", false), "8: 3 0 0 1 0 0 0 0 0 0 0 0 0 : 0 0 2 1 8 ");
        Check.due("poll garbled", once("", "x...", false), "14: 4 1 0 1 0 0 0 1 0 0 0 0 0 : 0 0 2 2 14 ");
        Check.due("TIMEOUT 20", once("line 20 3 2 8;", "x...", false), "29: 4 1 0 1 0 0 0 1 0 0 0 0 0 : 0 0 2 2 29 ");
        Check.due("message garbled", once("", ".x....", false), "16: 6 1 0 1 0 0 0 1 0 0 1 0 0 : 0 0 2 2 16 ");
        Check.due("negative answer garbled", once("", ".xx...", false), "16: 6 2 0 1 0 0 0 1 0 0 1 0 0 : 0 0 2 2 16 ");
        Check.due("positive answer garbled", once("", "..x", false), "8: 3 1 0 1 0 0 0 0 0 0 0 0 0 : 0 0 2 1 8 ");
        Check.due("all tries failed", once("", "x.x.x", false), "20: 5 3 0 0 0 0 0 3 1 0 1 0 0 : 0 0 0 3 20 ");
        Check.due("one try", once("line 5 1 2 8;", "x", false), "6: 1 1 0 0 0 0 0 1 1 0 0 0 0 : 0 0 0 1 6 ");
        Check.due("the fifth try", once("line 1 5 2 8;", "xxxx...", false), "16: 7 4 0 1 0 0 0 4 0 0 0 0 0 : 0 0 2 5 16 ");
    }

    private static void pollWithoutMessage() {
        PolledLine line = Check.loaded("terminal a delay 9;list a;" + Check.noise(20, ".x.." + ".x.x.x"));
        line.run(1);
        Check.due("a garbled nothing", Check.accounts(line) + Check.turn(line, 0), "4 1 1 0 0 0 0 1 0 0 0 0 0 0 0 1 2 22 ");
        line.run(1);
        Check.due("only garbled ones", Check.accounts(line) + Check.turn(line, 0), "10 4 1 0 0 0 0 4 1 0 0 0 0 0 0 0 3 55 ");
    }

    private static void pollCopy() {
        PolledLine line = Check.loaded("terminal a;terminal b;list a;" + Check.noise(20, "..x" + "..x" + "..." + "..."));
        line.set(4, 0);
        line.post(0, 1, 2);
        line.post(0, 1, 3);
        line.run(1);
        Check.due("kept by the sender", line.inRow(0, 0, 0) + " " + line.inRow(1, 1, 0) + " " + line.message(0, 3), "0 0 1");
        Check.due("bits", line.terminal(0, 10) + " " + line.terminal(0, 13), "0 1");
        line.run(1);
        Check.due("a copy", Check.turn(line, 0), "0 0 3 1 12 ");
        Check.due("a copy is dropped", line.account(3) + " " + line.account(4) + " " + line.terminal(1, 7), "1 1 1");
        Check.due("bits behind a copy that is not answered", line.terminal(0, 10) + " " + line.terminal(0, 13), "0 1");
        line.run(1);
        Check.due("the second copy", line.account(3) + " " + line.account(4) + " " + line.terminal(0, 6), "1 2 1");
        Check.due("bits behind a copy that is answered", line.terminal(0, 10) + " " + line.terminal(0, 13), "1 1");
        line.run(1);
        Check.due("the next message", line.account(3) + " " + line.inRow(1, 1, 1) + " " + line.terminal(0, 6), "2 1 0");
        Check.due("bits behind the next message", line.terminal(0, 10) + " " + line.terminal(0, 13), "0 0");
        Check.due("the time at which the host took it", line.message(0, 5), 5);
    }

    private static void selectTries() {
        Check.due("select", once("", "....", true), "9: 4 0 0 0 0 1 0 0 0 0 0 0 0 : 1 0 2 1 9 ");
        Check.due("select garbled", once("", "x....", true), "15: 5 1 0 0 0 1 0 1 0 0 0 0 0 : 1 0 2 2 15 ");
        Check.due("ready garbled", once("", ".x....", true), "13: 6 1 0 0 0 1 0 1 0 0 0 0 0 : 1 0 2 2 13 ");
        Check.due("message garbled", once("", "..x.....", true), "18: 8 1 0 0 0 1 0 1 0 0 1 0 0 : 1 0 2 2 18 ");
        Check.due("negative answer garbled", once("", "..xx....", true), "18: 8 2 0 0 0 1 0 1 0 0 1 0 0 : 1 0 2 2 18 ");
        Check.due("positive answer garbled", once("", "...x....", true), "18: 8 1 0 0 1 1 0 1 0 0 0 0 0 : 1 0 2 2 18 ");
        Check.due("all tries failed", once("", "x.x...x", true), "19: 7 3 0 0 0 0 0 3 1 0 0 0 0 : 1 0 0 3 19 ");
    }

    private static void selectCopy() {
        PolledLine line = Check.loaded("terminal a print 30;line 5 1 5 0;" + Check.noise(20, "...x" + "...x" + "...." + "...."));
        line.post(-1, 0, 4);
        line.post(-1, 0, 4);
        line.run(1);
        Check.due("missed, and in the BUFFER", Check.turn(line, 0) + Check.message(line, 0), "1 0 0 1 9 -1 0 4 2 0 0 8 -1 ");
        Check.due("in both rows", line.inRow(0, 1, 0) + " " + line.inRow(0, 2, 0), "0 0");
        Check.due("bits", line.terminal(0, 11) + " " + line.terminal(0, 12), "1 0");
        line.run(1);
        Check.due("a copy that is not answered", line.account(4) + " " + line.terminal(0, 8) + " " + line.terminal(0, 5), "1 1 2");
        line.run(1);
        Check.due("a copy that is answered", Check.turn(line, 0) + line.account(4) + " " + line.account(5), "1 0 2 1 27 2 1");
        Check.due("taken out of the host's row", line.inRow(0, 1, 0) + " " + line.terminal(0, 7), "1 1");
        Check.due("bits behind it", line.terminal(0, 11) + " " + line.terminal(0, 12), "1 1");
        Check.due("done", line.terminal(0, 5), 0);
        line.run(1);
        Check.due("the next message", line.terminal(0, 8) + " " + line.terminal(0, 11) + " " + line.terminal(0, 12), "2 0 0");
        Check.due("the time at which it came", line.message(0, 6) + " " + line.message(1, 6), "8 35");
        PolledLine kept = Check.loaded("terminal a room 1 print 1;line 5 1 5 0;" + Check.noise(20, "...x" + "...."));
        kept.post(-1, 0, 4);
        kept.run(1);
        Check.due("delivered, and in the host's row", Check.message(kept, 0) + kept.inRow(0, 1, 0), "-1 0 4 3 0 0 8 9 0");
        kept.run(1);
        Check.due("a copy of what is delivered", Check.message(kept, 0) + kept.inRow(0, 1, 0), "-1 0 4 3 0 0 8 9 -1");
        Check.due("is not delivered again", kept.count(9) + " " + kept.terminal(0, 8) + " " + kept.account(4), "1 0 1");
    }

    private static void busy() {
        PolledLine line = Check.loaded("terminal a room 1 print 30;line 5 3 2 0;burst 3;" + Check.noise(20, "...." + ".." + ".x.."));
        line.post(-1, 0, 1);
        line.post(-1, 0, 1);
        line.run(1);
        line.run(1);
        Check.due("busy", Check.turn(line, 0) + line.account(6) + " " + line.inRow(0, 1, 0), "1 0 4 1 10 1 1");
        line.run(1);
        Check.due("busy in the second try", Check.turn(line, 0) + line.account(6) + " " + line.account(7), "1 0 4 2 18 2 1");
        PolledLine missed = Check.loaded("terminal a room 1 print 30;line 5 1 2 0;burst 3;" + Check.noise(20, "...." + "x" + ".."));
        missed.post(-1, 0, 1);
        missed.post(-1, 0, 1);
        missed.run(2);
        Check.due("missed once", missed.terminal(0, 5), 1);
        missed.run(1);
        Check.due("busy is done", Check.turn(missed, 0) + missed.terminal(0, 5), "1 0 4 1 16 0");
    }

    private static void readyBehindDelay() {
        // The first message is in the BUFFER at 5; the second select's DELAY is over at 9.
        int[] printed = {4, 5};
        for (int print : printed) {
            PolledLine line = Check.loaded("terminal a room 1 print " + print + ";burst 2;");
            line.post(-1, 0, 1);
            line.post(-1, 0, 1);
            line.run(2);
            Check.due("PRINT " + print, Check.turn(line, 0), print == 4 ? "1 0 2 1 12 " : "1 0 4 1 10 ");
        }
    }

    private static void buffers() {
        PolledLine line = Check.loaded("terminal a delay 1 room 4 print 7;line 5 3 2 0;burst 5;");
        for (int i = 0; i < 3; i++) {
            line.post(-1, 0, 1);
        }
        // In the BUFFER at 4, 9 and 14; printed one behind the other.
        Check.due("delivered in 3 turns", line.run(3), 1);
        line.kill(0);
        Check.due("delivered by a dead terminal", line.run(30), 2);
        Check.due("times", line.message(0, 7) + " " + line.message(1, 7) + " " + line.message(2, 7), "11 18 25");
        line.wake(0);
        line.post(-1, 0, 1);
        line.run(10);
        Check.due("behind an empty BUFFER", line.message(3, 7) - line.message(3, 6), 7);
        // The first one is in the BUFFER at 5 and is done at 15, while the second one, from 10 to 30, is on the line.
        PolledLine emptied = Check.loaded("terminal a print 10;burst 5;");
        emptied.post(-1, 0, 1);
        emptied.post(-1, 0, 20);
        emptied.run(20);
        Check.due("a BUFFER that became empty on the way", Check.message(emptied, 0) + Check.message(emptied, 1),
            "-1 0 1 3 0 0 5 15 -1 0 20 3 0 0 30 40 ");
        PolledLine quick = Check.loaded("terminal a room 1 print 0;burst 5;");
        quick.post(-1, 0, 3);
        quick.post(-1, 0, 3);
        Check.due("PRINT 0", quick.run(2), 2);
        Check.due("PRINT 0, times", Check.message(quick, 0) + Check.message(quick, 1), "-1 0 3 3 0 0 7 7 -1 0 3 3 0 0 15 15 ");
    }

    private static void deadTerminals() {
        PolledLine line = Check.loaded("terminal a;list a;line 7 2 5 0;");
        line.kill(0);
        line.post(-1, 0, 1);
        line.run(2);
        Check.due("a dead terminal, selected and polled", Check.turn(line, 1) + Check.turn(line, 0), "1 0 0 2 16 0 0 0 2 32 ");
        Check.due("a dead terminal, accounts", Check.accounts(line), "4 0 0 0 0 0 0 4 2 0 0 0 0 ");
        PolledLine noisy = Check.loaded("terminal a;list a;line 7 2 5 0;" + Check.noise(20, "x."));
        noisy.kill(0);
        noisy.run(1);
        Check.due("a dead terminal with noise", Check.turn(noisy, 0) + noisy.account(1), "0 0 0 2 16 1");
    }

    private static void missesAndLimit() {
        PolledLine line = Check.loaded("terminal a;terminal b;list a b;line 5 1 3 0;");
        line.kill(0);
        line.run(3);
        Check.due("missed twice", line.terminal(0, 5) + " " + line.terminal(0, 4) + " " + line.account(8) + " " + line.account(9), "2 1 2 0");
        line.wake(0);
        line.run(2);
        Check.due("not missed any more", line.terminal(0, 5) + " " + line.account(8), "0 2");
        line.kill(0);
        line.run(6);
        Check.due("taken off", line.terminal(0, 5) + " " + line.terminal(0, 4) + " " + line.account(8) + " " + line.account(9), "3 0 5 1");
        line.wake(0);
        line.post(-1, 0, 1);
        line.run(10);
        Check.due("neither polled nor selected", line.often(0, 0) + " " + line.often(0, 1) + " " + line.off(), "6 0 1");
        PolledLine lowered = Check.loaded("terminal a;list a;line 5 1 5 0;");
        lowered.kill(0);
        lowered.run(3);
        lowered.set(2, 1);
        Check.due("LIMIT below MISSES", lowered.terminal(0, 4), 1);
        lowered.run(1);
        Check.due("missed once more", lowered.terminal(0, 4) + " " + lowered.terminal(0, 5), "0 4");
    }

    private static void tests() {
        PolledLine line = Check.loaded("terminal a;terminal b;terminal c;list a c b;line 1 1 1 4;");
        line.post(1, -1, 1);
        line.kill(0);
        line.kill(1);
        line.kill(2);
        line.run(3);
        Check.due("all are off", line.off(), 7);
        line.run(9);
        Check.due("tests in a ring", line.turn(0, 1) + " " + line.turn(4, 1) + " " + line.turn(8, 1), "2 1 0");
        Check.due("tests", line.turn(0, 0) + " " + line.turn(1, 0) + " " + line.account(11) + " " + line.account(12), "2 3 3 6");
        Check.due("a missed test leaves MISSES", line.terminal(0, 5) + " " + line.account(8) + " " + line.account(7), "1 3 6");
        line.wake(0);
        line.wake(1);
        line.run(4);
        Check.due("a test with nothing", Check.turn(line, 0).substring(0, 8), "2 0 1 1 ");
        Check.due("on again", line.off() + " " + line.terminal(0, 5) + " " + line.account(2), "6 0 1");
        Check.due("the place that was polled last stays", line.nextTerminal(), 0);
        line.run(4);
        Check.due("a test that takes a message", Check.turn(line, 0).substring(0, 8) + line.count(9), "2 1 2 1 1");
        Check.due("tested as often", line.often(0, 2) + " " + line.often(1, 2) + " " + line.often(2, 2), "2 2 1");
        PolledLine each = Check.loaded("terminal a;list a;line 1 1 1 1;");
        each.kill(0);
        each.run(3);
        Check.due("REVIVE 1", each.turn(2, 0) + " " + each.turn(1, 0) + " " + each.turn(0, 0), "0 2 2");
    }

    private static void testsGarbled() {
        PolledLine line = Check.loaded("terminal a;list a;line 1 1 1 2;" + Check.noise(20, "x" + ".x." + "..x"));
        line.post(0, -1, 1);
        line.run(1);
        Check.due("off", line.off(), 1);
        line.run(1);
        Check.due("a test has one try, though it is garbled", Check.turn(line, 0) + line.account(10), "2 0 0 1 7 1");
        line.run(2);
        Check.due("a test whose positive answer is garbled", Check.turn(line, 0).substring(0, 8) + line.off() + " " + line.terminal(0, 6), "2 0 2 1 0 1");
    }

    private static String kinds(PolledLine line, int turns) {
        StringBuilder text = new StringBuilder();
        for (int i = 0; i < turns; i++) {
            line.run(1);
            text.append(line.turn(0, 0)).append(line.turn(0, 1)).append(' ');
        }
        return text.toString();
    }

    private static PolledLine withMessages(String setup, int size) {
        PolledLine line = Check.loaded(setup);
        for (int i = 0; i < size; i++) {
            line.post(-1, 0, 1);
        }
        return line;
    }

    private static void burst() {
        String setup = "terminal a room 4;terminal b;list b;line 5 3 1 0;";
        Check.due("BURST 0", kinds(withMessages(setup + "burst 0;", 3), 5), "01 01 01 01 01 ");
        Check.due("BURST 1", kinds(withMessages(setup, 3), 6), "10 01 10 01 10 01 ");
        Check.due("BURST 2", kinds(withMessages(setup + "burst 2;", 5), 8), "10 10 01 10 10 01 10 01 ");
        Check.due("BURST 5", kinds(withMessages(setup + "burst 5;", 6), 8), "10 10 10 10 10 01 10 01 ");
        Check.due("nobody to poll", kinds(withMessages("terminal a room 4;burst 0;", 3), 4), "10 10 10 3-1 ");
        // Selects by rule (4) are counted, too, and an idle turn is no poll.
        PolledLine line = withMessages("terminal a room 4;terminal b;", 2);
        kinds(line, 3);
        line.addPlace(1);
        line.post(-1, 0, 1);
        Check.due("selects since the beginning", kinds(line, 3), "01 10 01 ");
        // A test is no poll for BURST.
        PolledLine tested = withMessages("terminal a room 4;terminal b;list b;line 1 1 1 2;", 1);
        tested.kill(1);
        Check.due("b is off", kinds(tested, 3), "10 01 3-1 ");
        tested.post(-1, 0, 1);
        Check.due("a test, by TURN", kinds(tested, 1), "21 ");
        Check.due("a select behind a test", kinds(tested, 1), "10 ");
        tested.wake(1);
        Check.due("b is on again", kinds(tested, 1), "21 ");
        tested.post(-1, 0, 1);
        Check.due("a test was no poll", kinds(tested, 2), "01 10 ");
    }

    private static void ringOfSelects() {
        PolledLine line = Check.loaded("terminal a;terminal b;terminal c;line 5 1 1 0;");
        line.post(-1, 2, 1);
        line.post(-1, 1, 1);
        line.post(-1, 0, 1);
        line.post(-1, 2, 1);
        line.post(-1, 0, 1);
        Check.due("selects in a ring", kinds(line, 6), "10 11 12 10 12 3-1 ");
        line.post(-1, 1, 1);
        line.post(-1, 2, 1);
        line.kill(1);
        line.run(1);
        Check.due("one that is off is passed over", kinds(line, 2), "12 3-1 ");
        PolledLine same = withMessages("terminal a room 4;terminal b;", 2);
        Check.due("the same one again", kinds(same, 2), "10 10 ");
    }

    private static void ringOfPlaces() {
        PolledLine line = Check.loaded("terminal a;terminal b;terminal c;list b a b c;line 5 1 1 0;");
        Check.due("polls in a ring", kinds(line, 6), "01 00 01 02 01 00 ");
        line.kill(1);
        Check.due("one that is off is passed over", kinds(line, 4), "01 02 00 02 ");
    }

    private static void placesAndChangesOfTheList() {
        PolledLine line = Check.loaded("terminal a;terminal b;terminal c;terminal d;list a b c d;line 5 1 1 0;");
        line.run(2);
        line.dropPlace(0);
        Check.due("the place stays though its terminal changed", kinds(line, 1), "03 ");
        line.dropPlace(2);
        line.dropPlace(1);
        Check.due("there is none such place any more", kinds(line, 1), "01 ");
        line.addPlace(2);
        line.addPlace(3);
        Check.due("behind the first place", kinds(line, 2), "02 03 ");
        line.dropPlace(2);
        line.addPlace(0);
        Check.due("place 2 is there again", kinds(line, 1), "01 ");
        line.run(2);
        line.dropPlace(0);
        line.dropPlace(0);
        line.dropPlace(0);
        Check.due("no place", kinds(line, 1), "3-1 ");
        line.addPlace(3);
        Check.due("one place", kinds(line, 1), "03 ");
        PolledLine last = Check.loaded("terminal a;terminal b;terminal c;list a b c;line 5 1 1 0;");
        last.run(3);
        last.dropPlace(2);
        Check.due("only the last place was dropped", kinds(last, 1), "00 ");
        PolledLine many = Check.loaded("terminal a;terminal b;terminal c;list a b c a b;line 5 1 1 0;");
        many.run(5);
        many.dropPlace(3);
        many.dropPlace(3);
        Check.due("two places were dropped", kinds(many, 1), "00 ");
    }

    private static void seeds() {
        PolledLine line = Check.loaded("terminal a;list a;noise 0 9999;");
        line.run(1);
        int first = (75 * 9999 + 74) % 65537;
        Check.due("SEED behind two things", line.count(5), (75 * first + 74) % 65537);
        PolledLine idle = Check.loaded("terminal a;noise 0 9999;");
        idle.run(5);
        Check.due("SEED when nothing is sent", idle.count(5) + " " + idle.count(3) + " " + idle.account(12), "9999 5 5");
        // The remainder of the first thing that is sent with the SEED 1.
        int remainder = (75 + 74) % 100;
        PolledLine below = Check.loaded("terminal a;list a;noise " + remainder + " 1;");
        below.run(1);
        PolledLine above = Check.loaded("terminal a;list a;line 5 1 5 8;noise " + (remainder + 1) + " 1;");
        above.run(1);
        Check.due("the remainder is NOISE", below.account(1) + " " + below.account(0), "0 2");
        Check.due("the remainder is less than NOISE", above.account(1) + " " + above.account(0), "1 1");
    }
}
