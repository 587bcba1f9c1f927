/** Promises 40 to 42: what is printed. */
public final class OutputTest {
    public static void main(String[] args) {
        printTerminals();
        printList();
        outputByte();
        Check.end();
    }

    private static void printTerminals() {
        PolledLine line = Check.loaded("terminal ann room 3 print 30;terminal b;terminal zzzzzz;list b ann;line 1 1 1 0;");
        Check.due("printTerminals", line.printTerminals(), 30);
        Check.due("terminals", Check.output(line), "ann:0/0/0 b:0/0/0 zzzzzz:0/0/0");
        line.kill(1);
        line.kill(2);
        line.run(1);
        for (int i = 0; i < 12; i++) {
            line.post(-1, 0, 1);
            line.post(1, 0, 1);
        }
        for (int i = 0; i < 9; i++) {
            line.post(2, 1, 1);
        }
        line.run(3);
        line.printTerminals();
        Check.due("terminals that are off and dead", Check.output(line), "ann:0/10/2 b-x:12/0/0 zzzzzzx:9/0/0");
        line.wake(1);
        Check.due("its length", line.printTerminals(), Check.output(line).length());
        Check.due("a terminal that is off", Check.output(line), "ann:0/10/2 b-:12/0/0 zzzzzzx:9/0/0");
        PolledLine many = Check.loaded("terminal abcdef;");
        for (int i = 0; i < 40; i++) {
            many.post(0, -1, 1);
        }
        many.printTerminals();
        Check.due("40 messages", Check.output(many), "abcdef:40/0/0");
    }

    private static void printList() {
        PolledLine line = Check.loaded("terminal ann;terminal b;terminal zzzzzz;list b ann b zzzzzz;");
        Check.due("printList", line.printList(), 14);
        Check.due("list", Check.output(line), "b ann b zzzzzz");
        for (int i = 0; i < 4; i++) {
            line.dropPlace(0);
        }
        Check.due("the output stays", Check.output(line), "b ann b zzzzzz");
        Check.due("printList of none", line.printList(), 0);
        Check.due("an empty list", Check.output(line), "");
        for (int i = 0; i < 16; i++) {
            line.addPlace(2);
        }
        Check.due("printList of 16 long names", line.printList(), 111);
        Check.due("16 long names", Check.output(line), "zzzzzz zzzzzz zzzzzz zzzzzz ".repeat(4).trim());
    }

    private static void outputByte() {
        PolledLine line = new PolledLine();
        Check.due("no output", line.outputByte(0), -1);
        line.printTerminals();
        Check.due("terminals", Check.output(line), "a:0/0/0 b:0/0/0");
        Check.due("bytes", line.outputByte(0) + " " + line.outputByte(1) + " " + line.outputByte(2) + " " + line.outputByte(3) + " "
            + line.outputByte(7) + " " + line.outputByte(14), "97 58 48 47 32 48");
        line.printList();
        Check.due("in place of what it had", line.outputByte(0) + " " + line.outputByte(1) + " " + line.outputByte(2) + " " + line.outputByte(3),
            "97 32 98 -1");
        int[] none = {-1, 3, 14, 160, Integer.MIN_VALUE, Integer.MAX_VALUE};
        for (int index : none) {
            Check.due("outputByte(" + index + ")", line.outputByte(index), -1);
        }
    }
}
