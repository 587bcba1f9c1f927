/** Promises 1 to 7: a new object, the input buffer, setups, scripts and their errors. */
public final class TextTest {
    private static final String EIGHT = "terminal a;terminal b;terminal c;terminal d;terminal e;terminal f;terminal g;terminal h;";

    public static void main(String[] args) {
        newObject();
        appendInput();
        truncateInput();
        loadLine();
        tokens();
        setupSyntax();
        setupOtherErrors();
        setupOnlyReplacesWhenRight();
        turnsBehindALoad();
        ringsBehindALoad();
        playScript();
        scriptStops();
        scriptErrors();
        latestError();
        Check.end();
    }

    private static void newObject() {
        PolledLine line = new PolledLine();
        Check.due("new: facts", PolledLineFacts.of(line), PolledLineFacts.of(Check.loaded("terminal a; terminal b; list a b;")));
        Check.due("new: terminals", line.count(0), 2);
        Check.due("new: names", line.nameLetter(0, 0) + " " + line.nameLetter(1, 0), "1 2");
        Check.due("new: list", line.count(1) + " " + line.place(0) + " " + line.place(1), "2 0 1");
        Check.due("new: seed", line.count(5), 1);
        Check.due("new: undo", line.count(12), 0);
        Check.due("new: error", line.errorCode() + " " + line.errorOffset(), "0 -1");
        Check.due("new: output", line.outputByte(0), -1);
        Check.due("new: input", line.truncateInput(1), false);
        Check.throwsOnly(line, "new: restoreState", java.util.NoSuchElementException.class, () -> line.restoreState());
    }

    private static void appendInput() {
        PolledLine line = new PolledLine();
        Check.due("appendInput", line.appendInput(0x7465726d, 0x696e616c, 0x20616263, 0x64656620, 0x3b207e41), 20);
        Check.due("truncateInput", line.truncateInput(19), true);
        Check.due("the order of the bytes", line.loadLine(), -1);
        Check.due("the order of the bytes, error", line.errorCode() + " " + line.errorOffset(), "1 18");
        PolledLine negative = new PolledLine();
        negative.appendInput(0x7465726d, 0x696e616c, 0x2061203b, 0xff202020, 0x20202020);
        Check.due("a byte above 127", negative.loadLine() + " " + negative.errorOffset(), "-1 12");
        PolledLine full = new PolledLine();
        for (int i = 1; i <= 30; i++) {
            Check.due("appendInput " + i, full.appendInput(0x20202020, 0x20202020, 0x20202020, 0x20202020, 0x20202020), 20 * i);
        }
        Check.due("appendInput to 620", full.appendInput(1, 2, 3, 4, 5), -1);
        Check.due("truncateInput(581)", full.truncateInput(581), true);
        Check.due("appendInput to 601", full.appendInput(1, 2, 3, 4, 5), -1);
        Check.due("still 581", full.truncateInput(582), false);
        Check.due("truncateInput(580)", full.truncateInput(580), true);
        Check.due("appendInput to 600", full.appendInput(0x20202020, 0x20202020, 0x20202020, 0x20202020, 0x20202020), 600);
        Check.due("an empty text of 600 bytes", full.playScript(), 0);
        Check.due("appendInput behind it", full.appendInput(0, 0, 0, 0, 0), 20);
    }

    private static void truncateInput() {
        PolledLine line = new PolledLine();
        Check.due("truncateInput(0), empty", line.truncateInput(0), true);
        Check.due("truncateInput(1), empty", line.truncateInput(1), false);
        line.appendInput(0, 0, 0, 0, 0);
        Check.due("truncateInput(-1)", line.truncateInput(-1), false);
        Check.due("truncateInput(min)", line.truncateInput(Integer.MIN_VALUE), false);
        Check.due("truncateInput(21)", line.truncateInput(21), false);
        Check.due("truncateInput(20)", line.truncateInput(20), true);
        Check.due("truncateInput(7)", line.truncateInput(7), true);
        Check.due("truncateInput(8)", line.truncateInput(8), false);
        Check.due("appendInput behind it", line.appendInput(0, 0, 0, 0, 0), 27);
    }

    private static void loadLine() {
        PolledLine line = new PolledLine();
        Check.feed(line, " \nterminal ann delay 9 room 4 print 30;terminal b room 1;terminal zzzzzz print 0 ;\nterminal delay delay 1;"
            + "list ann b ann zzzzzz;line 20 5 1 0;burst 0;noise 99 9999; \n");
        Check.due("loadLine", line.loadLine(), 4);
        Check.due("input emptied", line.truncateInput(1), false);
        Check.due("ann", line.terminal(0, 0) + " " + line.terminal(0, 1) + " " + line.terminal(0, 2), "9 4 30");
        Check.due("b", line.terminal(1, 0) + " " + line.terminal(1, 1) + " " + line.terminal(1, 2), "2 1 5");
        Check.due("zzzzzz", line.terminal(2, 0) + " " + line.terminal(2, 1) + " " + line.terminal(2, 2), "2 2 0");
        Check.due("delay", line.terminal(3, 0) + " " + line.nameLetter(3, 0), "1 4");
        line.printList();
        Check.due("list", Check.output(line), "ann b ann zzzzzz");
        StringBuilder settings = new StringBuilder();
        for (int i = 0; i <= 5; i++) {
            settings.append(line.setting(i)).append(' ');
        }
        Check.due("settings", settings.toString(), "20 5 1 0 0 99 ");
        Check.due("seed", line.count(5), 9999);
        PolledLine usual = Check.loaded("terminal x;");
        Check.due("usual terminal", usual.terminal(0, 0) + " " + usual.terminal(0, 1) + " " + usual.terminal(0, 2), "2 2 5");
        Check.due("usual list", usual.count(1), 0);
        Check.due("usual settings", usual.setting(0) + " " + usual.setting(1) + " " + usual.setting(2) + " " + usual.setting(3) + " "
            + usual.setting(4) + " " + usual.setting(5) + " " + usual.count(5), "5 3 2 8 1 0 1");
        Check.due("8 terminals", Check.loaded(EIGHT + "list a b c d e f g h a b c d e f g h;").count(1), 16);
        Check.due("smallest numbers", Check.loaded("terminal a delay 1 room 1 print 0;line 1 1 1 0;burst 0;noise 0 0;").count(5), 0);
        Check.due("greatest numbers", Check.loaded("terminal a delay 9 room 4 print 30;line 20 5 5 20;burst 5;noise 99 9999;").setting(3), 20);
        Check.due("statements ahead of terminals", Check.loaded("burst 2;line 1 1 1 1;noise 1 1;terminal a;").setting(4), 2);
    }

    private static void tokens() {
        Check.due("numbers right behind words", Check.loaded("terminal a delay3room4print0007;").terminal(0, 2), 7);
        Check.due("numbers with spaces", Check.loaded("terminal a;noise 0 0042;").count(5), 42);
        Check.loadFails("terminal a;noise 0 00042;", PolledLine.SYNTAX, 19);
        Check.loadFails("terminal a;noise 0 99999;", PolledLine.SYNTAX, 19);
        Check.loadFails("terminal a;burst 00001;", PolledLine.SYNTAX, 17);
        Check.loadFails("terminal a;burst 99999999999;", PolledLine.SYNTAX, 17);
        Check.loadFails("terminal A;", PolledLine.SYNTAX, 9);
        Check.loadFails("terminal aB;", PolledLine.SYNTAX, 10);
        Check.loadFails("terminal a\t;", PolledLine.SYNTAX, 10);
        Check.loadFails("terminal a\r\n;", PolledLine.SYNTAX, 10);
        Check.loadFails("terminal `;", PolledLine.SYNTAX, 9);
        Check.loadFails("terminal {;", PolledLine.SYNTAX, 9);
        Check.loadFails("terminal a;burst /;", PolledLine.SYNTAX, 17);
        Check.loadFails("terminal a;burst :;", PolledLine.SYNTAX, 17);
        Check.loadFails("terminal a;burst -1;", PolledLine.SYNTAX, 17);
        Check.loadFails("terminal a;list cC;", PolledLine.UNKNOWN, 16);
    }

    private static void setupSyntax() {
        Check.loadFails("", PolledLine.SYNTAX, 0);
        Check.loadFails("  \n ", PolledLine.SYNTAX, 4);
        Check.loadFails("burst 1;", PolledLine.SYNTAX, 8);
        Check.loadFails("burst 1; ", PolledLine.SYNTAX, 9);
        Check.loadFails(";", PolledLine.SYNTAX, 0);
        Check.loadFails("terminal a;;", PolledLine.SYNTAX, 11);
        Check.loadFails("terminal a", PolledLine.SYNTAX, 10);
        Check.loadFails("terminal a  ", PolledLine.SYNTAX, 12);
        Check.loadFails("terminal", PolledLine.SYNTAX, 8);
        Check.loadFails("terminal;", PolledLine.SYNTAX, 8);
        Check.loadFails("terminal 1;", PolledLine.SYNTAX, 9);
        Check.loadFails("terminal host;", PolledLine.SYNTAX, 9);
        Check.loadFails("terminal abcdefg;", PolledLine.SYNTAX, 9);
        Check.loadFails("terminal a b;", PolledLine.SYNTAX, 11);
        Check.loadFails("terminal a 2;", PolledLine.SYNTAX, 11);
        Check.loadFails("terminal a room 1 delay 1;", PolledLine.SYNTAX, 18);
        Check.loadFails("terminal a delay 1 delay 1;", PolledLine.SYNTAX, 19);
        Check.loadFails("terminal a delay;", PolledLine.SYNTAX, 16);
        Check.loadFails("terminal a print b;", PolledLine.SYNTAX, 17);
        Check.loadFails("terminal a terminal b;", PolledLine.SYNTAX, 11);
        Check.loadFails("post a host 1;", PolledLine.SYNTAX, 0);
        Check.loadFails("terminals a;", PolledLine.SYNTAX, 0);
        Check.loadFails("term a;", PolledLine.SYNTAX, 0);
        Check.loadFails("xerminal a;", PolledLine.SYNTAX, 0);
        Check.loadFails("terminax a;", PolledLine.SYNTAX, 0);
        Check.loadFails("terminal a;list;", PolledLine.SYNTAX, 15);
        Check.loadFails("terminal a;list a 1;", PolledLine.SYNTAX, 18);
        Check.loadFails("terminal a;list a", PolledLine.SYNTAX, 17);
        Check.loadFails("terminal a;list host;", PolledLine.SYNTAX, 16);
        Check.loadFails("terminal a;list a aaaaaaa;", PolledLine.SYNTAX, 18);
        Check.loadFails("terminal a;line 1 1 1;", PolledLine.SYNTAX, 21);
        Check.loadFails("terminal a;line 1 1 1 1 1;", PolledLine.SYNTAX, 24);
        Check.loadFails("terminal a;burst;", PolledLine.SYNTAX, 16);
        Check.loadFails("terminal a;noise 1;", PolledLine.SYNTAX, 18);
    }

    private static void setupOtherErrors() {
        Check.loadFails("terminal a delay 0;", PolledLine.OUT_OF_RANGE, 17);
        Check.loadFails("terminal a delay 10;", PolledLine.OUT_OF_RANGE, 17);
        Check.loadFails("terminal a room 0;", PolledLine.OUT_OF_RANGE, 16);
        Check.loadFails("terminal a room 5;", PolledLine.OUT_OF_RANGE, 16);
        Check.loadFails("terminal a print 31;", PolledLine.OUT_OF_RANGE, 17);
        Check.loadFails("line 0 1 1 1;", PolledLine.OUT_OF_RANGE, 5);
        Check.loadFails("line 21 1 1 1;", PolledLine.OUT_OF_RANGE, 5);
        Check.loadFails("line 1 0 1 1;", PolledLine.OUT_OF_RANGE, 7);
        Check.loadFails("line 1 6 1 1;", PolledLine.OUT_OF_RANGE, 7);
        Check.loadFails("line 1 1 0 1;", PolledLine.OUT_OF_RANGE, 9);
        Check.loadFails("line 1 1 6 1;", PolledLine.OUT_OF_RANGE, 9);
        Check.loadFails("line 1 1 1 21;", PolledLine.OUT_OF_RANGE, 11);
        Check.loadFails("burst 6;", PolledLine.OUT_OF_RANGE, 6);
        Check.loadFails("noise 100 1;", PolledLine.OUT_OF_RANGE, 6);
        Check.loadFails("list a;terminal a;", PolledLine.UNKNOWN, 5);
        Check.loadFails("terminal a;list a b;", PolledLine.UNKNOWN, 18);
        Check.loadFails("terminal ab;list a;", PolledLine.UNKNOWN, 17);
        Check.loadFails("terminal a;list ab;", PolledLine.UNKNOWN, 16);
        Check.loadFails("terminal a;terminal b;terminal a;", PolledLine.REPEATED, 31);
        Check.loadFails("terminal a;list a;list a;", PolledLine.REPEATED, 18);
        Check.loadFails("line 1 1 1 1;line 1 1 1 1;", PolledLine.REPEATED, 13);
        Check.loadFails("burst 1;burst 1;", PolledLine.REPEATED, 8);
        Check.loadFails("noise 1 1;noise 1 1;", PolledLine.REPEATED, 10);
        Check.loadFails(EIGHT + "terminal i;", PolledLine.TOO_MANY, 88);
        Check.loadFails(EIGHT + "terminal host;", PolledLine.TOO_MANY, 88);
        Check.loadFails("terminal a;list a a a a a a a a a a a a a a a a a;", PolledLine.TOO_MANY, 48);
        Check.loadFails("terminal a;list a a a a a a a a a a a a a a a a b;", PolledLine.UNKNOWN, 48);
        Check.loadFails("terminal a;list a a a a a a a a a a a a a a a a host;", PolledLine.SYNTAX, 48);
        Check.loadFails("terminal a;list a a a a a a a a a a a a a a a a 1;", PolledLine.SYNTAX, 48);
    }

    private static void setupOnlyReplacesWhenRight() {
        PolledLine line = Check.loaded("terminal ann;terminal bob;list bob ann;noise 50 77;");
        line.post(0, 1, 3);
        line.run(40);
        line.kill(1);
        line.saveState();
        line.printList();
        String before = PolledLineFacts.of(line);
        Check.feed(line, "terminal a;terminal c;list c;line 1 1 1 1;burst 3;noise 3 3;list a;");
        Check.due("loadLine with an error at last", line.loadLine(), -1);
        Check.due("nothing else is changed", PolledLineFacts.of(line), before);
        Check.due("changes stay", line.count(12), 3);
        Check.feed(line, "terminal a; terminal b; list a b;");
        Check.due("loadLine", line.loadLine(), 2);
        Check.due("all is as new", PolledLineFacts.of(line), PolledLineFacts.of(new PolledLine()));
        Check.due("nothing can be undone", line.count(12), 0);
        Check.throwsOnly(line, "no state is saved", java.util.NoSuchElementException.class, () -> line.restoreState());
        Check.due("the output stays", Check.output(line), "bob ann");
    }

    /** What is known from before the load must not show in the turns behind it. */
    private static void turnsBehindALoad() {
        String setup = "terminal a;terminal b;terminal c;list a b c;line 1 1 1 3;burst 2;noise 30 5;";
        for (int turns = 1; turns <= 40; turns++) {
            PolledLine line = Check.loaded(setup);
            for (int i = 0; i < 12; i++) {
                line.post(i % 4 - 1, (i + 1) % 4 - 1, 1 + i);
            }
            line.kill(turns % 3);
            line.run(turns);
            Check.feed(line, setup);
            line.loadLine();
            PolledLine fresh = Check.loaded(setup);
            Check.outOfBounds(line, "no turn is kept", () -> line.turn(0, 0));
            sameTurns(line, fresh, turns);
        }
    }

    /** The rings begin at 0 once more: lists, selects and tests that went further are forgotten. */
    private static void ringsBehindALoad() {
        String setup = "terminal a;terminal b;terminal c;list a b c;line 1 1 1 4;burst 5;";
        PolledLine line = Check.loaded(setup);
        line.post(-1, 0, 1);
        line.post(-1, 1, 1);
        line.run(2);
        line.kill(0);
        line.kill(1);
        line.run(7);
        Check.due("polled, selected and tested", line.often(0, 0) + " " + line.often(1, 1) + " " + line.often(0, 2), "1 1 1");
        Check.feed(line, setup);
        line.loadLine();
        Check.due("the first poll", line.nextKind() + " " + line.nextTerminal(), "0 0");
        for (int i = 0; i < 3; i++) {
            line.post(-1, i, 1);
            line.kill(i);
        }
        Check.due("the first select", line.nextKind() + " " + line.nextTerminal(), "1 0");
        line.run(3);
        Check.due("the first test", line.nextKind() + " " + line.nextTerminal() + " " + line.off(), "2 0 7");
    }

    private static void sameTurns(PolledLine line, PolledLine fresh, int turns) {
        for (int i = 0; i < 9; i++) {
            line.post((i + 2) % 4 - 1, i % 4 - 1, 2);
            fresh.post((i + 2) % 4 - 1, i % 4 - 1, 2);
        }
        line.kill(1);
        fresh.kill(1);
        for (int i = 0; i < 12; i++) {
            line.run(1);
            fresh.run(1);
            Check.due("a load behind " + turns + " turns, then turn " + i, PolledLineFacts.of(line), PolledLineFacts.of(fresh));
        }
    }

    private static void playScript() {
        PolledLine line = new PolledLine();
        PolledLine other = new PolledLine();
        Check.due("playScript", Check.play(line, "post host a 20;post b host 1 ; turns 2;kill a;kill b;wake b;add b;drop 0;\nturns 50;post a b 4"
            + ";"), 10);
        Check.due("input emptied", line.truncateInput(1), false);
        other.post(-1, 0, 20);
        other.post(1, -1, 1);
        other.run(2);
        other.kill(0);
        other.kill(1);
        other.wake(1);
        other.addPlace(1);
        other.dropPlace(0);
        other.run(50);
        other.post(0, 1, 4);
        Check.due("the same as the methods", PolledLineFacts.of(line), PolledLineFacts.of(other));
        Check.due("one change", line.count(12), 1);
        Check.due("undone as a whole", line.undo(), 0);
        Check.due("as new", PolledLineFacts.of(line), PolledLineFacts.of(new PolledLine()));
        Check.due("an empty script", Check.play(line, ""), 0);
        Check.due("is a change", line.count(12), 1);
        Check.due("an empty script with spaces", Check.play(line, " \n"), 0);
        Check.due("no error", line.errorCode() + " " + line.errorOffset(), "0 -1");
        Check.due("is a change, too", line.count(12), 2);
        StringBuilder thirty = new StringBuilder();
        for (int i = 0; i < 30; i++) {
            thirty.append("turns 1;");
        }
        Check.due("30 statements", Check.play(line, thirty.toString()), 30);
        Check.due("their turns", line.count(4), 30);
        Check.playFails(line, thirty + "turns 1;", PolledLine.TOO_MANY, 240);
        Check.playFails(line, thirty + "post", PolledLine.TOO_MANY, 240);
        Check.playFails(line, thirty + "list", PolledLine.SYNTAX, 240);
        Check.playFails(line, thirty + ";", PolledLine.SYNTAX, 240);
    }

    private static void scriptStops() {
        PolledLine line = new PolledLine();
        Check.due("drop of no place", Check.play(line, "kill a;drop 2;kill b;"), 1);
        Check.due("what was done stays", line.count(11), 1);
        Check.due("it is one change", line.count(12), 1);
        Check.due("nothing could be done", Check.play(line, "drop 15;"), 0);
        Check.due("it is a change, too", line.count(12), 2);
        for (int i = 0; i < 14; i++) {
            line.addPlace(0);
        }
        Check.due("a 17th place", Check.play(line, "drop 0;add a;add b;wake a;"), 2);
        for (int i = 0; i < 39; i++) {
            line.post(-1, 1, 1);
        }
        Check.due("a 41st message", Check.play(line, "post b host 2;post host b 2;turns 1;"), 1);
        Check.due("40 messages", line.count(2), 40);
        PolledLine late = new PolledLine();
        for (int i = 0; i < 99; i++) {
            late.run(100);
        }
        late.run(51);
        Check.due("TURN above 9999", Check.play(late, "turns 48;turns 1;kill a;"), 1);
        Check.due("TURN", late.count(4), 9999);
        Check.due("alive", late.count(11), 0);
    }

    private static void scriptErrors() {
        PolledLine line = new PolledLine();
        Check.playFails(line, "kill a;terminal c;", PolledLine.SYNTAX, 7);
        Check.playFails(line, "kill a;turn 1;", PolledLine.SYNTAX, 7);
        Check.playFails(line, "kill a", PolledLine.SYNTAX, 6);
        Check.playFails(line, "kill a ", PolledLine.SYNTAX, 7);
        Check.playFails(line, "kill", PolledLine.SYNTAX, 4);
        Check.playFails(line, "kill;", PolledLine.SYNTAX, 4);
        Check.playFails(line, "kill 1;", PolledLine.SYNTAX, 5);
        Check.playFails(line, "kill host;", PolledLine.SYNTAX, 5);
        Check.playFails(line, "wake host;", PolledLine.SYNTAX, 5);
        Check.playFails(line, "add host;", PolledLine.SYNTAX, 4);
        Check.playFails(line, "kill abcdefg;", PolledLine.SYNTAX, 5);
        Check.playFails(line, "kill a b;", PolledLine.SYNTAX, 7);
        Check.playFails(line, "post abcdefg host 1;", PolledLine.SYNTAX, 5);
        Check.playFails(line, "post 1 host 1;", PolledLine.SYNTAX, 5);
        Check.playFails(line, "post a 1;", PolledLine.SYNTAX, 7);
        Check.playFails(line, "post a host;", PolledLine.SYNTAX, 11);
        Check.playFails(line, "post a host b;", PolledLine.SYNTAX, 12);
        Check.playFails(line, "turns;", PolledLine.SYNTAX, 5);
        Check.playFails(line, "turns a;", PolledLine.SYNTAX, 6);
        Check.playFails(line, "turns 00050;", PolledLine.SYNTAX, 6);
        Check.playFails(line, "drop a;", PolledLine.SYNTAX, 5);
        Check.playFails(line, "kill a;;", PolledLine.SYNTAX, 7);
        Check.playFails(line, "post a host 0;", PolledLine.OUT_OF_RANGE, 12);
        Check.playFails(line, "post a host 21;", PolledLine.OUT_OF_RANGE, 12);
        Check.playFails(line, "turns 0;", PolledLine.OUT_OF_RANGE, 6);
        Check.playFails(line, "turns 51;", PolledLine.OUT_OF_RANGE, 6);
        Check.playFails(line, "drop 16;", PolledLine.OUT_OF_RANGE, 5);
        Check.playFails(line, "post c host 1;", PolledLine.UNKNOWN, 5);
        Check.playFails(line, "post host c 1;", PolledLine.UNKNOWN, 10);
        Check.playFails(line, "kill c;", PolledLine.UNKNOWN, 5);
        Check.playFails(line, "wake ab;", PolledLine.UNKNOWN, 5);
        Check.playFails(line, "add c;", PolledLine.UNKNOWN, 4);
        Check.playFails(line, "post b b 1;", PolledLine.REPEATED, 7);
        Check.playFails(line, "post host host 1;", PolledLine.REPEATED, 10);
        Check.due("no change", line.count(12), 0);
    }

    private static void latestError() {
        PolledLine line = new PolledLine();
        Check.feed(line, "terminal a print 99;");
        line.loadLine();
        Check.due("error of a load", line.errorCode() + " at " + line.errorOffset(), "2 at 17");
        line.run(1);
        line.undo();
        Check.due("the error stays", line.errorCode() + " at " + line.errorOffset(), "2 at 17");
        Check.play(line, "kill a;drop 9;");
        Check.due("a script that stopped has no error", line.errorCode() + " at " + line.errorOffset(), "0 at -1");
        Check.play(line, "kill z;");
        Check.due("error of a script", line.errorCode() + " at " + line.errorOffset(), "3 at 5");
        Check.feed(line, "terminal a;");
        line.loadLine();
        Check.due("a load without an error", line.errorCode() + " at " + line.errorOffset(), "0 at -1");
    }
}
