/** All that can be asked of a line but the input buffer, the error, the output and what can be undone, as one text. */
final class PolledLineFacts {
    private PolledLineFacts() {
    }

    static String of(PolledLine line) {
        return of(Asked.of(line));
    }

    static String of(Asked line) {
        StringBuilder text = new StringBuilder();
        for (int what = 0; what <= 11; what++) {
            text.append(line.count(what)).append(' ');
        }
        text.append("| accounts ");
        for (int what = 0; what <= 12; what++) {
            text.append(line.account(what)).append(' ');
        }
        text.append("| settings ");
        for (int setting = 0; setting <= 5; setting++) {
            text.append(line.setting(setting)).append(' ');
        }
        for (int terminal = 0; terminal < line.count(0); terminal++) {
            addTerminal(text, line, terminal);
        }
        for (int message = 0; message < line.count(2); message++) {
            text.append("| message ");
            for (int what = 0; what <= 7; what++) {
                text.append(line.message(message, what)).append(' ');
            }
        }
        text.append("| list ");
        for (int place = 0; place < line.count(1); place++) {
            text.append(line.place(place)).append(' ');
        }
        for (int index = 0; index < Math.min(20, line.count(4)); index++) {
            text.append("| turn ");
            for (int what = 0; what <= 4; what++) {
                text.append(line.turn(index, what)).append(' ');
            }
        }
        text.append("| off ").append(line.off()).append(" next ").append(line.nextKind());
        text.append(' ').append(line.nextTerminal()).append(" gap ").append(line.gap());
        text.append(" worst ").append(line.worst()).append(' ').append(line.meanTime()).append(' ').append(line.clearShare());
        return text.toString();
    }

    /** The same with the input buffer's length, the error, the output and how many changes can be undone. */
    static String withTheRest(PolledLine line) {
        int length = 600;
        while (length > 0 && !line.truncateInput(length)) {
            length--;
        }
        return of(line) + " input " + length + " error " + line.errorCode() + " at " + line.errorOffset() + " output " + Check.output(line)
            + " changes " + line.count(12);
    }

    private static void addTerminal(StringBuilder text, Asked line, int terminal) {
        text.append("| terminal ");
        for (int index = 0; index < 6; index++) {
            text.append(line.nameLetter(terminal, index)).append('.');
        }
        text.append(' ');
        for (int what = 0; what <= 13; what++) {
            text.append(line.terminal(terminal, what)).append(' ');
        }
        for (int row = 0; row <= 2; row++) {
            text.append(": ");
            for (int index = 0; line.inRow(terminal, row, index) != PolledLine.NONE; index++) {
                text.append(line.inRow(terminal, row, index)).append(' ');
            }
        }
        for (int what = 0; what <= 3; what++) {
            text.append("; ").append(line.often(terminal, what));
        }
    }
}
