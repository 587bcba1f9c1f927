import java.util.NoSuchElementException;

/** Terms 5 and promises 1 to 7: one test for each sentence that names a boundary case, as BOUNDARIES.md lists them. */
public final class BoundaryTextsTest {
    private static final String EIGHT = "terminal a;terminal b;terminal c;terminal d;terminal e;terminal f;terminal g;terminal h;";
    private static final String SIXTEEN = "a a a a a a a a a a a a a a a a";

    public static void main(String[] args) {
        newObject();
        appendInputToTheFull();
        appendInputThatIsRefused();
        bytesOfEachParameter();
        truncateInput();
        truncatedWithinAToken();
        textsThatFillTheBuffer();
        bufferIsEmptiedByEachLoad();
        bufferIsEmptiedByEachScript();
        emptyTexts();
        firstAndLastLetters();
        bytesOfNoToken();
        spacesAndLineFeeds();
        lettersOfANumberOrWord();
        lengthsOfNumbers();
        lengthsOfNames();
        namesThatAreNone();
        keywordsAsNames();
        namesAreToldAhead();
        differentNames();
        defaults();
        numbersOfTerminalsAtTheEnds();
        settingsAtTheEnds();
        listsOfOneToSixteen();
        toldOnce();
        toldOnceAndLeftOut();
        endOfTheText();
        firstErrorFromTheLeft();
        smallestCodeOfOneToken();
        nineTerminals();
        scriptNumbersAtTheEnds();
        secondWho();
        thirtyStatements();
        stoppedByEachMethod();
        stoppedScriptIsOneChange();
        errorChangesNothing();
        loadReplacesAllButTheOutput();
        latestError();
        Check.end();
    }

    private static void newObject() {
        PolledLine line = new PolledLine();
        Check.due("an empty buffer", line.truncateInput(1) + " " + line.truncateInput(0), "false true");
        Check.due("no call of loadLine or playScript yet", line.errorCode() + " " + line.errorOffset(), "0 -1");
        Check.throwsOnly(line, "undo on a new object", NoSuchElementException.class, () -> line.undo());
        Check.throwsOnly(line, "restoreState on a new object", NoSuchElementException.class, () -> line.restoreState());
        Check.due("the setup of a new object", PolledLineFacts.of(line), PolledLineFacts.of(Check.loaded("terminal a; terminal b; list a b;")));
    }

    private static int appendSpaces(PolledLine line) {
        return line.appendInput(0x20202020, 0x20202020, 0x20202020, 0x20202020, 0x20202020);
    }

    private static void appendInputToTheFull() {
        PolledLine line = new PolledLine();
        for (int length = 20; length <= 600; length += 20) {
            Check.due("appendInput", appendSpaces(line), length);
        }
        Check.due("appendInput to 620", appendSpaces(line), -1);
        int[] lengths = {599, 581, 580};
        for (int length : lengths) {
            Check.due("truncateInput(" + length + ")", line.truncateInput(length), true);
            Check.due("appendInput to " + (length + 20), appendSpaces(line), length == 580 ? 600 : -1);
        }
        Check.due("600 bytes", line.truncateInput(601) + " " + line.truncateInput(600), "false true");
    }

    private static void appendInputThatIsRefused() {
        PolledLine line = new PolledLine();
        Check.feed(line, "kill a;" + " ".repeat(574));
        Check.due("refused", line.appendInput(0x3f3f3f3f, 0x3f3f3f3f, 0x3f3f3f3f, 0x3f3f3f3f, 0x3f3f3f3f), -1);
        Check.due("as long as before", line.truncateInput(582) + " " + line.truncateInput(581), "false true");
        Check.due("the text is as before", line.playScript() + " " + line.count(11), "1 1");
    }

    private static void bytesOfEachParameter() {
        // "kill" " b;\n" "kill" "\n a;" "add " and then "b;" of another call, whose other bytes are cut off.
        PolledLine line = new PolledLine();
        Check.due("20 bytes", line.appendInput(0x6b696c6c, 0x20623b0a, 0x6b696c6c, 0x0a20613b, 0x61646420), 20);
        Check.due("40 bytes", line.appendInput(0x623bffff, -1, -1, -1, -1), 40);
        Check.due("truncateInput", line.truncateInput(22), true);
        Check.due("the bytes in their order", line.playScript() + " " + line.count(11) + " " + line.place(2), "3 2 1");
        for (int at = 0; at < 20; at++) {
            int[] words = {0x20202020, 0x20202020, 0x20202020, 0x20202020, 0x20202020};
            words[at / 4] = words[at / 4] & ~(255 << 24 - at % 4 * 8) | 255 << 24 - at % 4 * 8;
            line.appendInput(words[0], words[1], words[2], words[3], words[4]);
            Check.due("the place of byte " + at, line.playScript() + " " + line.errorOffset(), "-1 " + at);
        }
    }

    private static void truncateInput() {
        PolledLine line = new PolledLine();
        Check.feed(line, "kill a;");
        int[] refused = {-1, 8, 600, 601, Integer.MIN_VALUE, Integer.MAX_VALUE};
        for (int length : refused) {
            Check.due("truncateInput(" + length + ") of 7", line.truncateInput(length), false);
        }
        Check.due("to the current length", line.truncateInput(7), true);
        Check.due("the text is as before", line.playScript(), 1);
        Check.feed(line, "kill b;");
        Check.due("to nothing", line.truncateInput(0), true);
        Check.due("nothing is left", line.truncateInput(1) + " " + line.playScript() + " " + line.count(11), "false 0 1");
    }

    private static void truncatedWithinAToken() {
        PolledLine line = new PolledLine();
        String[] texts = {"killa;", "kill ab;", "turns 12345;", "kill a;"};
        int[] lengths = {4, 6, 8, 6};
        for (int i = 0; i < texts.length; i++) {
            Check.feed(line, texts[i]);
            Check.due("truncateInput(" + lengths[i] + ")", line.truncateInput(lengths[i]), true);
            Check.due("'" + texts[i] + "' cut off", line.playScript() + " " + line.errorCode() + " " + line.errorOffset(), "-1 1 " + lengths[i]);
        }
        Check.feed(line, "kill abc;");
        line.truncateInput(6);
        line.appendInput(0x3b202020, 0x20202020, 0x20202020, 0x20202020, 0x20202020);
        Check.due("what is appended comes right behind", line.playScript() + " " + line.terminal(0, 3), "1 0");
    }

    private static String filled(String end) {
        return " ".repeat(600 - end.length()) + end;
    }

    private static void textsThatFillTheBuffer() {
        PolledLine line = new PolledLine();
        Check.due("the last byte is a semicolon", Check.play(line, filled("kill a;")) + " " + line.count(11), "1 1");
        Check.playFails(line, filled("kill"), PolledLine.SYNTAX, 600);
        Check.playFails(line, filled("kill a"), PolledLine.SYNTAX, 600);
        Check.playFails(line, filled("turns 5"), PolledLine.SYNTAX, 600);
        Check.playFails(line, filled("kill a;z"), PolledLine.SYNTAX, 599);
        Check.playFails(line, filled("kill z"), PolledLine.UNKNOWN, 599);
        Check.playFails(line, filled("drop 0?"), PolledLine.SYNTAX, 599);
        Check.due("a setup of 600 bytes", Check.loaded(filled("terminal abcdef;")).nameLetter(0, 5), 6);
        Check.loadFails(filled("burst 0"), PolledLine.SYNTAX, 600);
        Check.loadFails(filled("burst 0;"), PolledLine.SYNTAX, 600);
        Check.loadFails(";".repeat(600), PolledLine.SYNTAX, 0);
        Check.loadFails("a".repeat(600), PolledLine.SYNTAX, 0);
        Check.loadFails("burst " + "0".repeat(594), PolledLine.SYNTAX, 6);
    }

    private static void bufferIsEmptiedByEachLoad() {
        PolledLine line = new PolledLine();
        String[] texts = {"terminal a;", "terminal a", ""};
        for (String text : texts) {
            Check.feed(line, text);
            line.loadLine();
            Check.due("the buffer behind a load of '" + text + "'", line.truncateInput(1) + " " + appendSpaces(line), "false 20");
            line.truncateInput(0);
        }
    }

    private static void bufferIsEmptiedByEachScript() {
        PolledLine line = new PolledLine();
        String[] texts = {"kill a;", "kill a", "drop 9;kill a;", ""};
        for (String text : texts) {
            Check.play(line, text);
            Check.due("the buffer behind a script '" + text + "'", line.truncateInput(1) + " " + appendSpaces(line), "false 20");
            line.truncateInput(0);
        }
    }

    private static void emptyTexts() {
        String[] texts = {"", " ", "\n", " \n \n\n "};
        for (String text : texts) {
            Check.loadFails(text, PolledLine.SYNTAX, text.length());
            PolledLine line = new PolledLine();
            Check.due("an empty script", Check.play(line, text) + " " + line.errorCode() + " " + line.errorOffset(), "0 0 -1");
            Check.due("it is a change", line.count(12) + " " + line.undo(), "1 0");
        }
    }

    private static void firstAndLastLetters() {
        PolledLine line = Check.loaded("terminal az;terminal za;");
        Check.due("a is 1, z is 26", line.nameLetter(0, 0) + " " + line.nameLetter(0, 1) + " " + line.nameLetter(1, 0) + " " + line.nameLetter(1, 1),
            "1 26 26 1");
        Check.due("digits 0 and 9", Check.loaded("terminal a;noise 90 9009;").count(5), 9009);
    }

    private static void bytesOfNoToken() {
        // The neighbours of letters, digits, the semicolon, the space and the line feed, and the ends of a byte.
        int[] bytes = {0, 9, 11, 13, 31, 33, 47, 58, 60, 64, 65, 90, 91, 96, 123, 127, 128, 160, 255};
        for (int sign : bytes) {
            char c = (char) sign;
            Check.loadFails(c + "terminal a;", PolledLine.SYNTAX, 0);
            Check.loadFails("terminal" + c + "a;", PolledLine.SYNTAX, 8);
            Check.loadFails("terminal a" + c + ";", PolledLine.SYNTAX, 10);
            Check.loadFails("terminal a;" + c, PolledLine.SYNTAX, 11);
            Check.loadFails("terminal a;burst 1" + c + ";", PolledLine.SYNTAX, 18);
            Check.loadFails("terminal a;burst " + c + "1;", PolledLine.SYNTAX, 17);
        }
    }

    private static void spacesAndLineFeeds() {
        Check.due("none where none is needed", Check.loaded("terminal a delay9room4print0;list a;burst5;").terminal(0, 0), 9);
        Check.due("many", Check.loaded("\n\n terminal \n a \n\n delay \n 9 \n ; \n ").terminal(0, 0), 9);
        Check.loadFails("terminal a; bur st 1;", PolledLine.SYNTAX, 12);
        Check.loadFails("terminal a;burst 1\n0;", PolledLine.SYNTAX, 19);
        Check.loadFails("terminala;", PolledLine.SYNTAX, 0);
    }

    private static void lettersOfANumberOrWord() {
        Check.loadFails("terminal a1;", PolledLine.SYNTAX, 10);
        Check.loadFails("terminal 1a;", PolledLine.SYNTAX, 9);
        Check.loadFails("terminal a;burst 1a;", PolledLine.SYNTAX, 18);
        Check.loadFails("terminal a;list a1;", PolledLine.SYNTAX, 17);
    }

    private static void lengthsOfNumbers() {
        String[] right = {"9", "09", "009", "0009"};
        for (String number : right) {
            Check.due("delay " + number, Check.loaded("terminal a delay " + number + ";").terminal(0, 0), 9);
        }
        Check.due("0000", Check.loaded("terminal a print 0000;").terminal(0, 2), 0);
        String[] tooLong = {"00009", "000009", "99999", "10000", "4294967297"};
        for (String number : tooLong) {
            Check.loadFails("terminal a delay " + number + ";", PolledLine.SYNTAX, 17);
            Check.playFails(new PolledLine(), "turns " + number + ";", PolledLine.SYNTAX, 6);
        }
        Check.loadFails("terminal a delay 9999;", PolledLine.OUT_OF_RANGE, 17);
        Check.loadFails("terminal a delay 0000;", PolledLine.OUT_OF_RANGE, 17);
        Check.due("turns 0050", Check.play(new PolledLine(), "turns 0050;"), 1);
    }

    private static void lengthsOfNames() {
        PolledLine line = Check.loaded("terminal z;terminal zzzzzz;list z zzzzzz;");
        Check.due("6 letters", line.nameLetter(1, 5) + " " + line.nameLetter(1, 6), "26 0");
        Check.due("1 letter", line.nameLetter(0, 0) + " " + line.nameLetter(0, 1), "26 0");
        Check.loadFails("terminal zzzzzzz;", PolledLine.SYNTAX, 9);
        Check.loadFails("terminal z;list zzzzzzz;", PolledLine.SYNTAX, 16);
        Check.playFails(line, "kill zzzzzzz;", PolledLine.SYNTAX, 5);
        Check.playFails(line, "post zzzzzzz host 1;", PolledLine.SYNTAX, 5);
        Check.playFails(line, "post host zzzzzzz 1;", PolledLine.SYNTAX, 10);
    }

    private static void namesThatAreNone() {
        PolledLine line = Check.loaded("terminal hos;terminal hosts;terminal ghost;list hos hosts ghost;");
        Check.due("nearly host", Check.play(line, "kill hos;kill hosts;kill ghost;") + " " + line.count(11), "3 3");
        Check.loadFails("terminal host;", PolledLine.SYNTAX, 9);
        Check.loadFails("terminal a;list host;", PolledLine.SYNTAX, 16);
        Check.loadFails("terminal a;list a host;", PolledLine.SYNTAX, 18);
        Check.playFails(line, "kill host;", PolledLine.SYNTAX, 5);
        Check.playFails(line, "wake host;", PolledLine.SYNTAX, 5);
        Check.playFails(line, "add host;", PolledLine.SYNTAX, 4);
    }

    private static void keywordsAsNames() {
        PolledLine line = Check.loaded("terminal list;terminal delay delay 3;terminal room room 1;terminal print print 9;terminal line;"
            + "terminal post;terminal turns;terminal noise;list list line noise post;");
        Check.due("keywords as names", line.terminal(1, 0) + " " + line.terminal(2, 1) + " " + line.terminal(3, 2) + " " + line.count(1), "3 1 9 4");
        Check.due("keywords in a script", Check.play(line, "post post list 3;kill turns;add noise;turns 1;"), 4);
        Check.loadFails("terminal terminal;", PolledLine.SYNTAX, 9);
    }

    private static void namesAreToldAhead() {
        Check.loadFails("list a;terminal a;", PolledLine.UNKNOWN, 5);
        Check.loadFails("terminal a;list a b;terminal b;", PolledLine.UNKNOWN, 18);
        Check.due("terminals behind the list", Check.loaded("terminal a;list a;terminal b;").count(0), 2);
        // A name of the line that is replaced is unknown in the setup.
        Check.loadFails("terminal c;list b;", PolledLine.UNKNOWN, 16);
    }

    private static void differentNames() {
        PolledLine line = Check.loaded("terminal a;terminal aa;terminal aaaaaa;terminal ab;terminal ba;");
        Check.play(line, "kill aa;kill aaaaaa;kill ba;");
        Check.due("names that begin alike", line.terminal(0, 3) + " " + line.terminal(1, 3) + " " + line.terminal(2, 3) + " " + line.terminal(3, 3)
            + " " + line.terminal(4, 3), "1 0 0 1 0");
        Check.loadFails("terminal aaaaaa;terminal aaaaaa;", PolledLine.REPEATED, 25);
        Check.loadFails("terminal a;terminal b;terminal b delay 0;", PolledLine.REPEATED, 31);
        Check.playFails(line, "kill aaa;", PolledLine.UNKNOWN, 5);
        Check.playFails(line, "kill b;", PolledLine.UNKNOWN, 5);
    }

    private static void defaults() {
        PolledLine line = Check.loaded("terminal a;terminal b delay 9;terminal c room 4;terminal d print 30;");
        String[] want = {"2 2 5", "9 2 5", "2 4 5", "2 2 30"};
        for (int i = 0; i < 4; i++) {
            Check.due("what is not told, " + i, line.terminal(i, 0) + " " + line.terminal(i, 1) + " " + line.terminal(i, 2), want[i]);
        }
        Check.due("no list", line.count(1), 0);
        Check.due("no settings", line.setting(0) + " " + line.setting(1) + " " + line.setting(2) + " " + line.setting(3) + " " + line.setting(4)
            + " " + line.setting(5) + " " + line.count(5), "5 3 2 8 1 0 1");
    }

    private static void numbersOfTerminalsAtTheEnds() {
        String[] words = {"delay", "room", "print"};
        int[] low = {1, 1, 0};
        int[] high = {9, 4, 30};
        for (int i = 0; i < 3; i++) {
            String text = "terminal a " + words[i] + " ";
            Check.due(words[i] + ", smallest", Check.loaded(text + low[i] + ";").terminal(0, i), low[i]);
            Check.due(words[i] + ", greatest", Check.loaded(text + high[i] + ";").terminal(0, i), high[i]);
            Check.loadFails(text + (high[i] + 1) + ";", PolledLine.OUT_OF_RANGE, text.length());
            Check.loadFails(text + "9999;", PolledLine.OUT_OF_RANGE, text.length());
            Check.loadFails(text + "-1;", PolledLine.SYNTAX, text.length());
            if (low[i] == 1) {
                Check.loadFails(text + "0;", PolledLine.OUT_OF_RANGE, text.length());
            }
        }
    }

    private static void settingsAtTheEnds() {
        PolledLine low = Check.loaded("terminal a;line 1 1 1 0;burst 0;noise 0 0;");
        PolledLine high = Check.loaded("terminal a;line 20 5 5 20;burst 5;noise 99 9999;");
        int[] smallest = {1, 1, 1, 0, 0, 0};
        int[] greatest = {20, 5, 5, 20, 5, 99};
        for (int i = 0; i < 6; i++) {
            Check.due("setting " + i, low.setting(i) + " " + high.setting(i), smallest[i] + " " + greatest[i]);
        }
        String[] wrong = {"line 0 1 1 0;", "line 21 1 1 0;", "line 1 0 1 0;", "line 1 6 1 0;", "line 1 1 0 0;", "line 1 1 6 0;", "line 1 1 1 21;",
            "burst 6;", "noise 100 0;"};
        int[] offsets = {5, 5, 7, 7, 9, 9, 11, 6, 6};
        for (int i = 0; i < wrong.length; i++) {
            Check.loadFails("terminal a;" + wrong[i], PolledLine.OUT_OF_RANGE, 11 + offsets[i]);
        }
        Check.loadFails("terminal a;line 1 1 1;", PolledLine.SYNTAX, 21);
        Check.loadFails("terminal a;line 1 1 1 1 1;", PolledLine.SYNTAX, 24);
        Check.loadFails("terminal a;burst;", PolledLine.SYNTAX, 16);
        Check.loadFails("terminal a;burst 1 1;", PolledLine.SYNTAX, 19);
        Check.loadFails("terminal a;noise 1;", PolledLine.SYNTAX, 18);
        Check.loadFails("terminal a;noise 1 1 1;", PolledLine.SYNTAX, 21);
    }

    private static void listsOfOneToSixteen() {
        Check.loadFails("terminal a;list;", PolledLine.SYNTAX, 15);
        Check.due("one", Check.loaded("terminal a;list a;").count(1), 1);
        Check.due("sixteen", Check.loaded("terminal a;list " + SIXTEEN + ";").count(1), 16);
        Check.loadFails("terminal a;list " + SIXTEEN + " a;", PolledLine.TOO_MANY, 48);
        Check.loadFails("terminal a;list " + SIXTEEN + " a a z;", PolledLine.TOO_MANY, 48);
    }

    private static void toldOnce() {
        String[] statements = {"list a;", "line 1 1 1 1;", "burst 1;", "noise 1 1;"};
        for (String statement : statements) {
            Check.due("once: " + statement, Check.loaded("terminal a;" + statement).count(0), 1);
            int offset = 11 + statement.length();
            Check.loadFails("terminal a;" + statement + statement, PolledLine.REPEATED, offset);
            String word = statement.substring(0, statement.indexOf(' '));
            Check.loadFails("terminal a;" + statement + word, PolledLine.REPEATED, offset);
            Check.loadFails("terminal a;" + statement + "terminal b;" + word + ";", PolledLine.REPEATED, offset + 11);
        }
    }

    private static void toldOnceAndLeftOut() {
        // What an earlier text told does not count.
        PolledLine line = new PolledLine();
        String all = "terminal a;list a;line 1 1 1 1;burst 1;noise 1 1;";
        String[] texts = {all, all, all + "burst 1;", all, "terminal a;", all};
        for (String text : texts) {
            Check.feed(line, text);
            Check.due("loadLine of " + text, line.loadLine(), text.endsWith("burst 1;") ? -1 : 1);
        }
        Check.feed(line, "terminal a;");
        line.loadLine();
        Check.due("what is not told is as usual again", line.count(1) + " " + line.setting(0) + " " + line.setting(4) + " " + line.setting(5) + " "
            + line.count(5), "0 5 1 0 1");
    }

    private static void endOfTheText() {
        String[] setups = {"terminal", "terminal a", "terminal a delay", "terminal a delay 1", "terminal a room", "terminal a room 1",
            "terminal a print", "terminal a print 1", "terminal a;list", "terminal a;list a", "terminal a;line", "terminal a;line 1",
            "terminal a;line 1 1", "terminal a;line 1 1 1", "terminal a;line 1 1 1 1", "terminal a;burst", "terminal a;burst 1",
            "terminal a;noise", "terminal a;noise 1", "terminal a;noise 1 1"};
        for (String text : setups) {
            Check.loadFails(text, PolledLine.SYNTAX, text.length());
            Check.loadFails(text + " \n", PolledLine.SYNTAX, text.length() + 2);
        }
        String[] withoutTerminal = {"", "burst 1;", "noise 0 0;line 1 1 1 1;"};
        for (String text : withoutTerminal) {
            Check.loadFails(text, PolledLine.SYNTAX, text.length());
            Check.loadFails(text + "\n ", PolledLine.SYNTAX, text.length() + 2);
        }
        PolledLine line = new PolledLine();
        String[] scripts = {"post", "post a", "post a host", "post a host 1", "kill", "kill a", "wake", "wake a", "turns", "turns 1", "add", "add a",
            "drop", "drop 0"};
        for (String text : scripts) {
            Check.playFails(line, text, PolledLine.SYNTAX, text.length());
            Check.playFails(line, text + " \n", PolledLine.SYNTAX, text.length() + 2);
            Check.playFails(line, "turns 1;" + text, PolledLine.SYNTAX, 8 + text.length());
        }
    }

    private static void firstErrorFromTheLeft() {
        Check.loadFails("list x;terminal", PolledLine.UNKNOWN, 5);
        Check.loadFails("burst 9;?", PolledLine.OUT_OF_RANGE, 6);
        Check.loadFails("terminal a;terminal a;?", PolledLine.REPEATED, 20);
        Check.loadFails(EIGHT + "terminal ?", PolledLine.TOO_MANY, 88);
        Check.loadFails("terminal a delay 0 delay", PolledLine.OUT_OF_RANGE, 17);
        PolledLine line = new PolledLine();
        Check.playFails(line, "kill z;?", PolledLine.UNKNOWN, 5);
        Check.playFails(line, "post a a 99;", PolledLine.REPEATED, 7);
        Check.playFails(line, "post z z 99;", PolledLine.UNKNOWN, 5);
        Check.playFails(line, "turns 51", PolledLine.OUT_OF_RANGE, 6);
        Check.playFails(line, "turns 0;turns 51;", PolledLine.OUT_OF_RANGE, 6);
    }

    private static void smallestCodeOfOneToken() {
        Check.loadFails("terminal a;list " + SIXTEEN + " z;", PolledLine.UNKNOWN, 48);
        Check.loadFails("terminal a;list " + SIXTEEN + " zzzzzzz;", PolledLine.SYNTAX, 48);
        Check.loadFails("terminal a;list " + SIXTEEN + " host;", PolledLine.SYNTAX, 48);
        Check.loadFails("terminal a;list " + SIXTEEN + " 1;", PolledLine.SYNTAX, 48);
        Check.loadFails("terminal a;burst 00006;", PolledLine.SYNTAX, 17);
        PolledLine line = new PolledLine();
        String thirty = "turns 1;".repeat(30);
        String[] none = {"terminal a;", "host", ";", "1", "?", "turn 1;"};
        for (String statement : none) {
            Check.playFails(line, thirty + statement, PolledLine.SYNTAX, 240);
        }
        Check.playFails(line, "post host host 00001;", PolledLine.REPEATED, 10);
    }

    private static void nineTerminals() {
        Check.due("eight", Check.loaded(EIGHT).count(0), 8);
        Check.loadFails(EIGHT + "terminal", PolledLine.TOO_MANY, 88);
        Check.loadFails(EIGHT + "terminal a;", PolledLine.TOO_MANY, 88);
        Check.loadFails(EIGHT + "list a;terminal host;", PolledLine.TOO_MANY, 95);
    }

    private static void scriptNumbersAtTheEnds() {
        PolledLine line = Check.loaded("terminal a;list " + SIXTEEN + ";");
        Check.due("smallest ones", Check.play(line, "post a host 1;turns 1;drop 0;add a;"), 4);
        Check.due("greatest ones", Check.play(line, "post a host 20;turns 50;drop 15;"), 3);
        Check.due("done", line.count(2) + " " + line.count(4) + " " + line.count(1), "2 51 15");
        Check.playFails(line, "post a host 0;", PolledLine.OUT_OF_RANGE, 12);
        Check.playFails(line, "post a host 21;", PolledLine.OUT_OF_RANGE, 12);
        Check.playFails(line, "turns 0;", PolledLine.OUT_OF_RANGE, 6);
        Check.playFails(line, "turns 51;", PolledLine.OUT_OF_RANGE, 6);
        Check.playFails(line, "turns 100;", PolledLine.OUT_OF_RANGE, 6);
        Check.playFails(line, "drop 16;", PolledLine.OUT_OF_RANGE, 5);
        Check.playFails(line, "drop 9999;", PolledLine.OUT_OF_RANGE, 5);
    }

    private static void secondWho() {
        PolledLine line = new PolledLine();
        Check.due("two different ones", Check.play(line, "post a b 1;post b a 1;post a host 1;post host b 1;"), 4);
        Check.playFails(line, "post a a 1;", PolledLine.REPEATED, 7);
        Check.playFails(line, "post b b 1;", PolledLine.REPEATED, 7);
        Check.playFails(line, "post host host 1;", PolledLine.REPEATED, 10);
        Check.playFails(line, "post a c 1;", PolledLine.UNKNOWN, 7);
        Check.playFails(line, "post host c 1;", PolledLine.UNKNOWN, 10);
    }

    private static void thirtyStatements() {
        PolledLine line = new PolledLine();
        Check.due("thirty", Check.play(line, "wake a;".repeat(30)) + " " + line.count(12), "30 1");
        Check.playFails(line, "wake a;".repeat(31), PolledLine.TOO_MANY, 210);
        Check.playFails(line, "wake a;".repeat(30) + " \n drop", PolledLine.TOO_MANY, 213);
    }

    private static void stoppedByEachMethod() {
        PolledLine line = Check.loaded("terminal a;list " + SIXTEEN.substring(2) + ";");
        Check.due("add beyond 16 places", Check.play(line, "add a;add a;kill a;") + " " + line.count(1) + " " + line.count(11), "1 16 0");
        Check.due("drop of no place", Check.play(line, "drop 15;drop 15;kill a;") + " " + line.count(1) + " " + line.count(11), "1 15 0");
        for (int i = 0; i < 39; i++) {
            line.post(0, -1, 1);
        }
        Check.due("post of a 41st message", Check.play(line, "post host a 1;post host a 1;kill a;") + " " + line.count(2) + " " + line.count(11),
            "1 40 0");
        for (int i = 0; i < 99; i++) {
            line.run(100);
        }
        Check.due("turns to TURN 9999", Check.play(line, "turns 50;turns 49;turns 1;kill a;") + " " + line.count(4) + " " + line.count(11), "2 9999 0");
        Check.due("none is done", Check.play(line, "turns 1;kill a;") + " " + line.errorCode() + " " + line.errorOffset(), "0 0 -1");
    }

    private static void stoppedScriptIsOneChange() {
        PolledLine line = new PolledLine();
        line.run(3);
        String before = PolledLineFacts.of(line);
        Check.due("stopped", Check.play(line, "kill a;post a b 3;turns 9;drop 2;turns 9;"), 3);
        Check.due("one change", line.count(12), 2);
        Check.due("undone as a whole", line.undo() + PolledLineFacts.of(line), 1 + before);
        for (int i = 0; i < 8; i++) {
            Check.play(line, "turns 1;turns 1;drop 9;");
        }
        Check.due("eight scripts are eight changes", line.count(12) + " " + line.count(4), "8 19");
        line.undo();
        Check.due("the last one is undone", line.count(4), 17);
    }

    private static void errorChangesNothing() {
        PolledLine line = Check.loaded("terminal ann;terminal bob;list bob ann;noise 30 77;");
        line.post(0, 1, 3);
        line.run(9);
        line.saveState();
        String saved = PolledLineFacts.of(line);
        line.run(9);
        line.printList();
        String before = PolledLineFacts.of(line);
        String[] texts = {"terminal a;list a;line 1 1 1 1;burst 1;noise 1 1;noise", "terminal a;terminal ann;terminal ann;", EIGHT + "terminal i;", ""};
        for (String text : texts) {
            Check.feed(line, text);
            Check.due("loadLine of '" + text + "'", line.loadLine(), -1);
            Check.due("the line behind it", PolledLineFacts.of(line) + line.count(12) + Check.output(line), before + 3 + "bob ann");
        }
        String[] scripts = {"kill ann;turns 9;post ann bob 1;drop 0;kill cat;", "wake ann;".repeat(31), "kill ann"};
        for (String script : scripts) {
            Check.due("playScript of '" + script + "'", Check.play(line, script), -1);
            Check.due("the line behind it", PolledLineFacts.of(line) + line.count(12) + Check.output(line), before + 3 + "bob ann");
        }
        Check.due("the change can be undone", line.undo() + PolledLineFacts.of(line), 2 + saved);
        line.run(1);
        line.restoreState();
        Check.due("the state is saved", PolledLineFacts.of(line), saved);
    }

    private static void loadReplacesAllButTheOutput() {
        PolledLine line = Check.loaded("terminal ann;terminal bob;terminal cat;list bob ann;line 1 1 1 3;burst 2;noise 30 77;");
        for (int i = 0; i < 40; i++) {
            line.post(i % 4 - 1, (i + 1) % 4 - 1, 1 + i % 20);
        }
        line.kill(1);
        line.run(60);
        line.saveState();
        line.printTerminals();
        String output = Check.output(line);
        Check.feed(line, "terminal a; terminal b; list a b;");
        Check.due("loadLine", line.loadLine(), 2);
        Check.due("as new", PolledLineFacts.of(line), PolledLineFacts.of(new PolledLine()));
        Check.due("TIME, TURN and messages", line.count(3) + " " + line.count(4) + " " + line.count(2), "0 0 0");
        Check.due("the output stays", Check.output(line), output);
        Check.throwsOnly(line, "undo behind a load", NoSuchElementException.class, () -> line.undo());
        Check.throwsOnly(line, "restoreState behind a load", NoSuchElementException.class, () -> line.restoreState());
        Check.outOfBounds(line, "a turn behind a load", () -> line.turn(0, 0));
        Check.outOfBounds(line, "a message behind a load", () -> line.message(0, 0));
        Check.outOfBounds(line, "a terminal that there was", () -> line.terminal(2, 0));
    }

    private static void latestError() {
        PolledLine line = new PolledLine();
        String[] calls = {"-burst", "+drop 9;", "-burst 9;", "-terminal a;", "+kill b;", "+", "-"};
        String[] want = {"1 5", "0 -1", "2 6", "0 -1", "3 5", "0 -1", "1 0"};
        for (int i = 0; i < calls.length; i++) {
            Check.feed(line, calls[i].substring(1));
            int answer = calls[i].charAt(0) == '-' ? line.loadLine() : line.playScript();
            Check.due("an error answers -1: " + calls[i], answer == -1, line.errorCode() != PolledLine.NO_ERROR);
            Check.due("the error behind " + calls[i], line.errorCode() + " " + line.errorOffset(), want[i]);
        }
        line.saveState();
        line.run(1);
        line.undo();
        line.restoreState();
        line.printList();
        appendSpaces(line);
        line.truncateInput(0);
        Check.due("other calls leave it", line.errorCode() + " " + line.errorOffset(), "1 0");
    }
}
