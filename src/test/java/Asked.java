/** What can be asked of a line, so that the same questions can be put to the class and to the slow line. */
interface Asked {
    int count(int what);

    int account(int what);

    int setting(int setting);

    int terminal(int terminal, int what);

    int nameLetter(int terminal, int index);

    int message(int message, int what);

    int inRow(int terminal, int row, int index);

    int place(int place);

    int off();

    int turn(int index, int what);

    int nextKind();

    int nextTerminal();

    int gap();

    int worst();

    int often(int terminal, int what);

    double meanTime();

    float clearShare();

    static Asked of(PolledLine line) {
        return new Asked() {
            @Override
            public int count(int what) {
                return line.count(what);
            }

            @Override
            public int account(int what) {
                return line.account(what);
            }

            @Override
            public int setting(int setting) {
                return line.setting(setting);
            }

            @Override
            public int terminal(int terminal, int what) {
                return line.terminal(terminal, what);
            }

            @Override
            public int nameLetter(int terminal, int index) {
                return line.nameLetter(terminal, index);
            }

            @Override
            public int message(int message, int what) {
                return line.message(message, what);
            }

            @Override
            public int inRow(int terminal, int row, int index) {
                return line.inRow(terminal, row, index);
            }

            @Override
            public int place(int place) {
                return line.place(place);
            }

            @Override
            public int off() {
                return line.off();
            }

            @Override
            public int turn(int index, int what) {
                return line.turn(index, what);
            }

            @Override
            public int nextKind() {
                return line.nextKind();
            }

            @Override
            public int nextTerminal() {
                return line.nextTerminal();
            }

            @Override
            public int gap() {
                return line.gap();
            }

            @Override
            public int worst() {
                return line.worst();
            }

            @Override
            public int often(int terminal, int what) {
                return line.often(terminal, what);
            }

            @Override
            public double meanTime() {
                return line.meanTime();
            }

            @Override
            public float clearShare() {
                return line.clearShare();
            }
        };
    }
}
