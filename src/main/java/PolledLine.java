import java.util.NoSuchElementException;

/** A host that polls terminals on one line, as ../shared/DOC.md promises it. */
public final class PolledLine {
    public static final int NONE = -1;
    public static final int NO_ERROR = 0;
    public static final int SYNTAX = 1;
    public static final int OUT_OF_RANGE = 2;
    public static final int UNKNOWN = 3;
    public static final int REPEATED = 4;
    public static final int TOO_MANY = 5;

    private static final int MAX_TERMINALS = 8;
    private static final int MAX_PLACES = 16;
    private static final int MAX_MESSAGES = 40;
    private static final int MAX_LENGTH = 20;
    private static final int MAX_TURN = 9999;
    private static final int MAX_STATEMENTS = 30;
    private static final int MAX_INPUT = 600;
    private static final int APPENDED = 20;
    private static final int MAX_CHANGES = 8;
    private static final int LOGGED_TURNS = 20;
    private static final int NAME_LETTERS = 6;
    /** The longest list of terminals that can be printed has 135 bytes. */
    private static final int MAX_OUTPUT = 160;

    private static final int MAX_RUN = 100;
    private static final int MAX_TRIAL = 50;
    private static final int FORESEEN_TURNS = 200;

    private static final int TIMEOUT = 0;
    private static final int TRIES = 1;
    private static final int LIMIT = 2;
    private static final int REVIVE = 3;
    private static final int BURST = 4;
    private static final int NOISE = 5;
    private static final int SETTINGS = 6;
    private static final int[] SMALLEST = {1, 1, 1, 0, 0, 0};
    private static final int[] GREATEST = {20, 5, 5, 20, 5, 99};
    private static final int[] USUAL = {5, 3, 2, 8, 1, 0};

    private static final int SENT = 0;
    private static final int GARBLED = 1;
    private static final int EMPTY_POLLS = 2;
    private static final int TAKEN_BY_HOST = 3;
    private static final int COPIES = 4;
    private static final int TAKEN_SELECTS = 5;
    private static final int BUSY_SELECTS = 6;
    private static final int FAILED_TRIES = 7;
    private static final int MISSED_TERMINALS = 8;
    private static final int TAKEN_OFF = 9;
    private static final int NEGATIVE_ANSWERS = 10;
    private static final int TESTS = 11;
    private static final int IDLE_TURNS = 12;
    private static final int ACCOUNTS = 13;

    /** States of a message; the first three are the numbers of the rows, too. */
    private static final int OUT = 0;
    private static final int AT_HOST = 1;
    private static final int BUFFER = 2;
    private static final int DELIVERED = 3;
    private static final int ROWS = 3;
    private static final int STATES = 4;

    /** Kinds of a turn; the first three are the numbers of what often() counts, too. */
    private static final int POLL = 0;
    private static final int SELECT = 1;
    private static final int TEST = 2;
    private static final int IDLE = 3;
    private static final int OFTEN_MISSED = 3;
    private static final int OFTEN = 4;

    private static final int MISSED = 0;
    private static final int NOTHING = 1;
    private static final int TAKEN = 2;
    private static final int COPY = 3;
    private static final int BUSY = 4;

    private static final String FIRST_SETUP = "terminal a; terminal b; list a b;";

    private final Setup setup = new Setup();
    private final Line line = new Line(setup);
    private final Host host = new Host(line);
    private final Line copy = new Line(setup);
    private final Host copyHost = new Host(copy);
    private final Line saved = new Line(setup);
    private final History history = new History(setup);
    private final Tokens tokens = new Tokens();
    private final SetupReader setupReader = new SetupReader(tokens);
    private final Script script = new Script(tokens, setup);
    private final int[] output = new int[MAX_OUTPUT];
    private int outputLength = 0;
    private boolean hasSaved = false;

    public PolledLine() {
        for (int i = 0; i < FIRST_SETUP.length(); i++) {
            tokens.addByte(FIRST_SETUP.charAt(i));
        }
        if (setupReader.readText()) {
            beginAnew();
        }
        tokens.length = 0;
    }

    public int appendInput(int a, int b, int c, int d, int e) {
        if (tokens.length > MAX_INPUT - APPENDED) {
            return -1;
        }
        tokens.addFourBytes(a);
        tokens.addFourBytes(b);
        tokens.addFourBytes(c);
        tokens.addFourBytes(d);
        tokens.addFourBytes(e);
        return tokens.length;
    }

    public boolean truncateInput(int length) {
        if (length < 0 || length > tokens.length) {
            return false;
        }
        tokens.length = length;
        return true;
    }

    public int loadLine() {
        boolean right = setupReader.readText();
        tokens.length = 0;
        if (!right) {
            return -1;
        }
        beginAnew();
        return setup.size;
    }

    private void beginAnew() {
        setup.copyFrom(setupReader.draft);
        line.begin(setupReader);
        history.size = 0;
        hasSaved = false;
    }

    public int playScript() {
        boolean right = script.readText();
        tokens.length = 0;
        if (!right) {
            return -1;
        }
        history.remember(line);
        int done = 0;
        while (done < script.size && perform(done)) {
            done++;
        }
        return done;
    }

    /** Does a statement of the script; false if its method would throw. */
    private boolean perform(int statement) {
        int number = script.first[statement];
        switch (script.verbs[statement]) {
            case Script.POST:
                if (line.messages.isFull()) {
                    return false;
                }
                line.addMessage(number, script.second[statement], script.third[statement]);
                return true;
            case Script.KILL:
                line.setLife(number, 0);
                return true;
            case Script.WAKE:
                line.setLife(number, 1);
                return true;
            case Script.TURNS:
                if (line.turn + number > MAX_TURN) {
                    return false;
                }
                host.makeTurns(number);
                return true;
            case Script.ADD:
                if (line.listSize >= MAX_PLACES) {
                    return false;
                }
                line.appendPlace(number);
                return true;
            default:
                if (number >= line.listSize) {
                    return false;
                }
                line.removePlace(number);
                return true;
        }
    }

    public int errorCode() {
        return tokens.errorCode;
    }

    public int errorOffset() {
        return tokens.errorOffset;
    }

    public int count(int what) throws IllegalArgumentException {
        switch (what) {
            case 0:
                return setup.size;
            case 1:
                return line.listSize;
            case 2:
                return line.messages.size;
            case 3:
                return line.time;
            case 4:
                return line.turn;
            case 5:
                return line.seed;
            case 6:
            case 7:
            case 8:
            case 9:
                return line.messages.countIn(what - 6);
            case 10:
                return setup.size - line.sumOf(line.stations.on);
            case 11:
                return setup.size - line.sumOf(line.stations.alive);
            case 12:
                return history.size;
            default:
                throw new IllegalArgumentException();
        }
    }

    public int account(int what) throws IllegalArgumentException {
        if (what < 0 || what >= ACCOUNTS) {
            throw new IllegalArgumentException();
        }
        return line.accounts[what];
    }

    public int setting(int setting) throws IllegalArgumentException {
        if (setting < 0 || setting >= SETTINGS) {
            throw new IllegalArgumentException();
        }
        return line.settings[setting];
    }

    public int terminal(int terminal, int what) throws IndexOutOfBoundsException, IllegalArgumentException {
        if (!setup.has(terminal)) {
            throw new IndexOutOfBoundsException();
        }
        switch (what) {
            case 0:
                return setup.delays[terminal];
            case 1:
                return setup.rooms[terminal];
            case 2:
                return setup.prints[terminal];
            case 3:
                return line.stations.alive[terminal];
            case 4:
                return line.stations.on[terminal];
            case 5:
                return line.stations.misses[terminal];
            case 6:
            case 7:
            case 8:
                return line.rows.sizeOf(what - 6, terminal);
            case 9:
                return line.placesWith(terminal);
            case 10:
                return line.stations.ownBits[terminal];
            case 11:
                return line.stations.expectedBits[terminal];
            case 12:
                return line.stations.hostBits[terminal];
            case 13:
                return line.stations.hostExpectedBits[terminal];
            default:
                throw new IllegalArgumentException();
        }
    }

    public int nameLetter(int terminal, int index) throws IndexOutOfBoundsException {
        if (!setup.has(terminal)) {
            throw new IndexOutOfBoundsException();
        }
        return setup.letterOf(terminal, index);
    }

    public int message(int message, int what) throws IndexOutOfBoundsException, IllegalArgumentException {
        Messages messages = line.messages;
        if (!messages.has(message)) {
            throw new IndexOutOfBoundsException();
        }
        switch (what) {
            case 0:
                return messages.senders[message];
            case 1:
                return messages.receivers[message];
            case 2:
                return messages.lengths[message];
            case 3:
                return messages.states[message];
            case 4:
                return messages.postTimes[message];
            case 5:
                return messages.hostTimes[message];
            case 6:
                return messages.bufferTimes[message];
            case 7:
                return messages.deliveryTimes[message];
            default:
                throw new IllegalArgumentException();
        }
    }

    public int inRow(int terminal, int row, int index) throws IndexOutOfBoundsException, IllegalArgumentException {
        if (!setup.has(terminal)) {
            throw new IndexOutOfBoundsException();
        }
        if (row < 0 || row >= ROWS) {
            throw new IllegalArgumentException();
        }
        return line.rows.messageAt(row, terminal, index);
    }

    public int place(int place) throws IndexOutOfBoundsException {
        if (!line.hasPlace(place)) {
            throw new IndexOutOfBoundsException();
        }
        return line.list[place];
    }

    public int off() {
        int set = 0;
        for (int i = 0; i < setup.size; i++) {
            if (line.stations.on[i] == 0) {
                set |= 1 << i;
            }
        }
        return set;
    }

    public int turn(int index, int what) throws IndexOutOfBoundsException, IllegalArgumentException {
        if (index < 0 || index >= line.log.size) {
            throw new IndexOutOfBoundsException();
        }
        if (what < 0 || what >= TurnLog.NUMBERS) {
            throw new IllegalArgumentException();
        }
        return line.log.numberOf(index, what);
    }

    public int nextKind() {
        host.choose(line.turn + 1);
        return host.kind;
    }

    public int nextTerminal() {
        host.choose(line.turn + 1);
        return host.terminal;
    }

    public int gap() {
        int less = line.messages.size;
        for (int i = 0; i < STATES; i++) {
            less -= line.messages.countIn(i);
        }
        return less;
    }

    public int deliveredIn(int turns) throws IllegalArgumentException {
        if (turns < 0 || turns > MAX_RUN) {
            throw new IllegalArgumentException();
        }
        copy.copyFrom(line);
        copyHost.makeTurns(turns);
        return copy.delivered();
    }

    public int timeIn(int turns) throws IllegalArgumentException {
        if (turns < 0 || turns > MAX_RUN) {
            throw new IllegalArgumentException();
        }
        copy.copyFrom(line);
        copyHost.makeTurns(turns);
        return copy.time;
    }

    public int deliversIn(int message) throws IndexOutOfBoundsException {
        if (!line.messages.has(message)) {
            throw new IndexOutOfBoundsException();
        }
        copy.copyFrom(line);
        for (int turns = 0; turns <= FORESEEN_TURNS; turns++) {
            if (copy.messages.states[message] == DELIVERED) {
                return turns;
            }
            copyHost.makeTurn();
        }
        return NONE;
    }

    public int quietIn() {
        copy.copyFrom(line);
        for (int turns = 0; turns <= FORESEEN_TURNS; turns++) {
            if (copy.delivered() == copy.messages.size) {
                return turns;
            }
            copyHost.makeTurn();
        }
        return NONE;
    }

    public int switchesIn(int terminal) throws IndexOutOfBoundsException {
        if (!setup.has(terminal)) {
            throw new IndexOutOfBoundsException();
        }
        copy.copyFrom(line);
        for (int turns = 0; turns <= FORESEEN_TURNS; turns++) {
            if (copy.stations.on[terminal] != line.stations.on[terminal]) {
                return turns;
            }
            copyHost.makeTurn();
        }
        return NONE;
    }

    public int bestTries(int turns) throws IllegalArgumentException {
        if (turns < 1 || turns > MAX_TRIAL) {
            throw new IllegalArgumentException();
        }
        int best = SMALLEST[TRIES];
        int most = -1;
        for (int tries = SMALLEST[TRIES]; tries <= GREATEST[TRIES]; tries++) {
            int delivered = deliveredWith(TRIES, tries, turns);
            if (delivered > most) {
                most = delivered;
                best = tries;
            }
        }
        return best;
    }

    public int lostByNoise(int turns) throws IllegalArgumentException {
        if (turns < 1 || turns > MAX_RUN) {
            throw new IllegalArgumentException();
        }
        return deliveredWith(NOISE, 0, turns) - deliveredWith(NOISE, line.settings[NOISE], turns);
    }

    /** How many messages are delivered behind the turns if the setting had that value from now on. */
    private int deliveredWith(int setting, int value, int turns) {
        copy.copyFrom(line);
        copy.settings[setting] = value;
        copyHost.makeTurns(turns);
        return copy.delivered();
    }

    public int worst() {
        int worst = NONE;
        int most = 0;
        for (int i = 0; i < setup.size; i++) {
            int missed = line.stations.oftenOf(OFTEN_MISSED, i);
            if (missed > most) {
                most = missed;
                worst = i;
            }
        }
        return worst;
    }

    public int often(int terminal, int what) throws IndexOutOfBoundsException, IllegalArgumentException {
        if (!setup.has(terminal)) {
            throw new IndexOutOfBoundsException();
        }
        if (what < 0 || what >= OFTEN) {
            throw new IllegalArgumentException();
        }
        return line.stations.oftenOf(what, terminal);
    }

    public double meanTime() {
        int delivered = line.delivered();
        if (delivered == 0) {
            return 0.0;
        }
        return (double) line.messages.sumOfTimes() / (double) delivered;
    }

    public float clearShare() {
        int sent = line.accounts[SENT];
        if (sent == 0) {
            return 1.0f;
        }
        return (float) (sent - line.accounts[GARBLED]) / (float) sent;
    }

    public int post(int sender, int receiver, int length)
            throws IndexOutOfBoundsException, IllegalArgumentException, IllegalStateException {
        if (!isParty(sender) || !isParty(receiver)) {
            throw new IndexOutOfBoundsException();
        }
        if (sender == receiver || length < 1 || length > MAX_LENGTH) {
            throw new IllegalArgumentException();
        }
        if (line.messages.isFull()) {
            throw new IllegalStateException();
        }
        history.remember(line);
        return line.addMessage(sender, receiver, length);
    }

    private boolean isParty(int number) {
        return number == NONE || setup.has(number);
    }

    public int kill(int terminal) throws IndexOutOfBoundsException {
        if (!setup.has(terminal)) {
            throw new IndexOutOfBoundsException();
        }
        history.remember(line);
        return line.setLife(terminal, 0);
    }

    public int wake(int terminal) throws IndexOutOfBoundsException {
        if (!setup.has(terminal)) {
            throw new IndexOutOfBoundsException();
        }
        history.remember(line);
        return line.setLife(terminal, 1);
    }

    public int run(int turns) throws IllegalArgumentException {
        if (turns < 1 || turns > MAX_RUN || line.turn + turns > MAX_TURN) {
            throw new IllegalArgumentException();
        }
        history.remember(line);
        int before = line.delivered();
        host.makeTurns(turns);
        return line.delivered() - before;
    }

    public int addPlace(int terminal) throws IndexOutOfBoundsException, IllegalStateException {
        if (!setup.has(terminal)) {
            throw new IndexOutOfBoundsException();
        }
        if (line.listSize >= MAX_PLACES) {
            throw new IllegalStateException();
        }
        history.remember(line);
        line.appendPlace(terminal);
        return line.listSize;
    }

    public int dropPlace(int place) throws IndexOutOfBoundsException {
        if (!line.hasPlace(place)) {
            throw new IndexOutOfBoundsException();
        }
        history.remember(line);
        int dropped = line.list[place];
        line.removePlace(place);
        return dropped;
    }

    public int set(int setting, int value) throws IllegalArgumentException {
        if (setting < 0 || setting >= SETTINGS || value < SMALLEST[setting] || value > GREATEST[setting]) {
            throw new IllegalArgumentException();
        }
        history.remember(line);
        int before = line.settings[setting];
        line.settings[setting] = value;
        return before;
    }

    public int undo() throws NoSuchElementException {
        if (history.size == 0) {
            throw new NoSuchElementException();
        }
        history.takeBack(line);
        return history.size;
    }

    public int printTerminals() {
        outputLength = 0;
        for (int i = 0; i < setup.size; i++) {
            if (i > 0) {
                writeByte(' ');
            }
            writeName(i);
            if (line.stations.on[i] == 0) {
                writeByte('-');
            }
            if (line.stations.alive[i] == 0) {
                writeByte('x');
            }
            for (int row = 0; row < ROWS; row++) {
                writeByte(row == 0 ? ':' : '/');
                writeNumber(line.rows.sizeOf(row, i));
            }
        }
        return outputLength;
    }

    public int printList() {
        outputLength = 0;
        for (int i = 0; i < line.listSize; i++) {
            if (i > 0) {
                writeByte(' ');
            }
            writeName(line.list[i]);
        }
        return outputLength;
    }

    private void writeName(int terminal) {
        for (int i = 0; i < NAME_LETTERS; i++) {
            int letter = setup.letterOf(terminal, i);
            if (letter > 0) {
                writeByte('a' + letter - 1);
            }
        }
    }

    /** Writes a number of messages: it has two digits at most. */
    private void writeNumber(int number) {
        if (number >= 10) {
            writeByte('0' + number / 10);
        }
        writeByte('0' + number % 10);
    }

    private void writeByte(int sign) {
        if (outputLength < MAX_OUTPUT) {
            output[outputLength] = sign;
            outputLength++;
        }
    }

    public int outputByte(int index) {
        if (index < 0 || index >= outputLength) {
            return -1;
        }
        return output[index];
    }

    public int saveState() {
        saved.copyFrom(line);
        hasSaved = true;
        return line.time;
    }

    public int restoreState() throws NoSuchElementException {
        if (!hasSaved) {
            throw new NoSuchElementException();
        }
        line.copyFrom(saved);
        history.size = 0;
        return line.time;
    }

    /** What a setup tells of the terminals: only a load changes it, so that all lines share one. */
    private static final class Setup {
        private static final int LETTER_BITS = 5;
        private static final int LETTER_MASK = 31;
        private static final int USUAL_DELAY = 2;
        private static final int USUAL_ROOM = 2;
        private static final int USUAL_PRINT = 5;

        int size = 0;
        /** A name as one number: 1 for a to 26 for z, the first letter in the lowest bits. */
        final int[] names = new int[MAX_TERMINALS];
        final int[] delays = new int[MAX_TERMINALS];
        final int[] rooms = new int[MAX_TERMINALS];
        final int[] prints = new int[MAX_TERMINALS];

        boolean has(int terminal) {
            return terminal >= 0 && terminal < size;
        }

        void addTerminal(int name) {
            if (size < MAX_TERMINALS) {
                names[size] = name;
                delays[size] = USUAL_DELAY;
                rooms[size] = USUAL_ROOM;
                prints[size] = USUAL_PRINT;
                size++;
            }
        }

        int find(int name) {
            for (int i = 0; i < size; i++) {
                if (names[i] == name) {
                    return i;
                }
            }
            return NONE;
        }

        int letterOf(int terminal, int index) {
            if (!has(terminal) || index < 0 || index >= NAME_LETTERS) {
                return 0;
            }
            return names[terminal] >> LETTER_BITS * index & LETTER_MASK;
        }

        void copyFrom(Setup other) {
            size = other.size;
            System.arraycopy(other.names, 0, names, 0, MAX_TERMINALS);
            System.arraycopy(other.delays, 0, delays, 0, MAX_TERMINALS);
            System.arraycopy(other.rooms, 0, rooms, 0, MAX_TERMINALS);
            System.arraycopy(other.prints, 0, prints, 0, MAX_TERMINALS);
        }
    }

    /** What is known of each message that was posted. */
    private static final class Messages {
        int size = 0;
        final int[] senders = new int[MAX_MESSAGES];
        final int[] receivers = new int[MAX_MESSAGES];
        final int[] lengths = new int[MAX_MESSAGES];
        final int[] states = new int[MAX_MESSAGES];
        final int[] postTimes = new int[MAX_MESSAGES];
        final int[] hostTimes = new int[MAX_MESSAGES];
        final int[] bufferTimes = new int[MAX_MESSAGES];
        final int[] deliveryTimes = new int[MAX_MESSAGES];

        boolean has(int message) {
            return message >= 0 && message < size;
        }

        boolean isFull() {
            return size >= MAX_MESSAGES;
        }

        /** How many messages are in a state. */
        int countIn(int state) {
            int sum = 0;
            for (int i = 0; i < size; i++) {
                if (states[i] == state) {
                    sum++;
                }
            }
            return sum;
        }

        /** The sum of the times from when the delivered ones were posted. */
        int sumOfTimes() {
            int sum = 0;
            for (int i = 0; i < size; i++) {
                if (states[i] == DELIVERED) {
                    sum += deliveryTimes[i] - postTimes[i];
                }
            }
            return sum;
        }

        void copyFrom(Messages other) {
            size = other.size;
            System.arraycopy(other.senders, 0, senders, 0, size);
            System.arraycopy(other.receivers, 0, receivers, 0, size);
            System.arraycopy(other.lengths, 0, lengths, 0, size);
            System.arraycopy(other.states, 0, states, 0, size);
            System.arraycopy(other.postTimes, 0, postTimes, 0, size);
            System.arraycopy(other.hostTimes, 0, hostTimes, 0, size);
            System.arraycopy(other.bufferTimes, 0, bufferTimes, 0, size);
            System.arraycopy(other.deliveryTimes, 0, deliveryTimes, 0, size);
        }
    }

    /**
     * The OUT rows, the host's rows and the BUFFERs, as chains of messages: a message may stand in
     * one row of each kind at once, as the one who sent it keeps it until it is answered.
     */
    private static final class Rows {
        private static final int ENDS = ROWS * MAX_TERMINALS;
        private static final int LINKS = ROWS * MAX_MESSAGES;

        private final int[] firsts = new int[ENDS];
        private final int[] lasts = new int[ENDS];
        private final int[] sizes = new int[ENDS];
        private final int[] nexts = new int[LINKS];

        void clear() {
            for (int i = 0; i < ENDS; i++) {
                sizes[i] = 0;
            }
        }

        int sizeOf(int row, int terminal) {
            int at = row * MAX_TERMINALS + terminal;
            return at >= 0 && at < ENDS ? sizes[at] : 0;
        }

        int firstOf(int row, int terminal) {
            int at = row * MAX_TERMINALS + terminal;
            return at >= 0 && at < ENDS && sizes[at] > 0 ? firsts[at] : NONE;
        }

        /** The message behind another one; behind the last one of a row it means nothing. */
        private int nextOf(int row, int message) {
            int at = row * MAX_MESSAGES + message;
            return at >= 0 && at < LINKS ? nexts[at] : NONE;
        }

        int messageAt(int row, int terminal, int index) {
            if (index < 0 || index >= sizeOf(row, terminal)) {
                return NONE;
            }
            int message = firstOf(row, terminal);
            for (int i = 0; i < index; i++) {
                message = nextOf(row, message);
            }
            return message;
        }

        void append(int row, int terminal, int message) {
            int at = row * MAX_TERMINALS + terminal;
            if (at < 0 || at >= ENDS) {
                return;
            }
            int last = row * MAX_MESSAGES + lasts[at];
            if (sizes[at] == 0) {
                firsts[at] = message;
            } else if (last >= 0 && last < LINKS) {
                nexts[last] = message;
            }
            lasts[at] = message;
            sizes[at]++;
        }

        void removeFirst(int row, int terminal) {
            int at = row * MAX_TERMINALS + terminal;
            if (at >= 0 && at < ENDS && sizes[at] > 0) {
                sizes[at]--;
                firsts[at] = nextOf(row, firsts[at]);
            }
        }

        void copyFrom(Rows other) {
            System.arraycopy(other.firsts, 0, firsts, 0, ENDS);
            System.arraycopy(other.lasts, 0, lasts, 0, ENDS);
            System.arraycopy(other.sizes, 0, sizes, 0, ENDS);
            System.arraycopy(other.nexts, 0, nexts, 0, LINKS);
        }
    }

    /** What changes of the terminals, and what the host knows of them. */
    private static final class Stations {
        final int[] alive = new int[MAX_TERMINALS];
        final int[] on = new int[MAX_TERMINALS];
        final int[] misses = new int[MAX_TERMINALS];
        final int[] ownBits = new int[MAX_TERMINALS];
        final int[] expectedBits = new int[MAX_TERMINALS];
        final int[] hostBits = new int[MAX_TERMINALS];
        final int[] hostExpectedBits = new int[MAX_TERMINALS];
        /** When the first message of the BUFFER became the first one. */
        final int[] firstSince = new int[MAX_TERMINALS];
        private final int[] often = new int[OFTEN * MAX_TERMINALS];

        void clear() {
            for (int i = 0; i < MAX_TERMINALS; i++) {
                alive[i] = 1;
                on[i] = 1;
                misses[i] = 0;
                ownBits[i] = 0;
                expectedBits[i] = 0;
                hostBits[i] = 0;
                hostExpectedBits[i] = 0;
                firstSince[i] = 0;
            }
            for (int i = 0; i < OFTEN * MAX_TERMINALS; i++) {
                often[i] = 0;
            }
        }

        void countOften(int what, int terminal) {
            int at = what * MAX_TERMINALS + terminal;
            if (at >= 0 && at < OFTEN * MAX_TERMINALS) {
                often[at]++;
            }
        }

        int oftenOf(int what, int terminal) {
            int at = what * MAX_TERMINALS + terminal;
            return at >= 0 && at < OFTEN * MAX_TERMINALS ? often[at] : 0;
        }

        void copyFrom(Stations other) {
            System.arraycopy(other.alive, 0, alive, 0, MAX_TERMINALS);
            System.arraycopy(other.on, 0, on, 0, MAX_TERMINALS);
            System.arraycopy(other.misses, 0, misses, 0, MAX_TERMINALS);
            System.arraycopy(other.ownBits, 0, ownBits, 0, MAX_TERMINALS);
            System.arraycopy(other.expectedBits, 0, expectedBits, 0, MAX_TERMINALS);
            System.arraycopy(other.hostBits, 0, hostBits, 0, MAX_TERMINALS);
            System.arraycopy(other.hostExpectedBits, 0, hostExpectedBits, 0, MAX_TERMINALS);
            System.arraycopy(other.firstSince, 0, firstSince, 0, MAX_TERMINALS);
            System.arraycopy(other.often, 0, often, 0, OFTEN * MAX_TERMINALS);
        }
    }

    /** The latest turns, in a ring. */
    private static final class TurnLog {
        static final int NUMBERS = 5;

        int size = 0;
        private int next = 0;
        private final int[] numbers = new int[LOGGED_TURNS * NUMBERS];

        void clear() {
            size = 0;
            next = 0;
        }

        void add(int kind, int terminal, int result, int tries, int time) {
            int at = next * NUMBERS;
            numbers[at] = kind;
            numbers[at + 1] = terminal;
            numbers[at + 2] = result;
            numbers[at + 3] = tries;
            numbers[at + 4] = time;
            next = (next + 1) % LOGGED_TURNS;
            if (size < LOGGED_TURNS) {
                size++;
            }
        }

        /** A number of the turn with that index, 0 for the latest one. */
        int numberOf(int index, int what) {
            int at = (next - 1 - index + 2 * LOGGED_TURNS) % LOGGED_TURNS;
            return numbers[at * NUMBERS + what];
        }

        void copyFrom(TurnLog other) {
            size = other.size;
            next = other.next;
            System.arraycopy(other.numbers, 0, numbers, 0, LOGGED_TURNS * NUMBERS);
        }
    }

    /** All that a change can change, so that it can be copied as a whole. */
    private static final class Line {
        private static final int SEED_FACTOR = 75;
        private static final int SEED_SUMMAND = 74;
        private static final int SEED_DIVISOR = 65537;

        final Setup setup;
        final Messages messages = new Messages();
        final Rows rows = new Rows();
        final Stations stations = new Stations();
        final TurnLog log = new TurnLog();
        final int[] settings = new int[SETTINGS];
        final int[] accounts = new int[ACCOUNTS];
        final int[] list = new int[MAX_PLACES];
        int listSize = 0;
        int time = 0;
        int turn = 0;
        int seed = 0;
        int lastTested = NONE;
        int lastSelected = NONE;
        int lastPlace = NONE;
        int selectsSincePoll = 0;

        Line(Setup setup) {
            this.setup = setup;
        }

        /** Begins as a setup tells that was read without an error. */
        void begin(SetupReader reader) {
            messages.size = 0;
            rows.clear();
            stations.clear();
            log.clear();
            for (int i = 0; i < ACCOUNTS; i++) {
                accounts[i] = 0;
            }
            System.arraycopy(reader.settings, 0, settings, 0, SETTINGS);
            System.arraycopy(reader.list, 0, list, 0, MAX_PLACES);
            listSize = reader.listSize;
            time = 0;
            turn = 0;
            seed = reader.seed;
            lastTested = NONE;
            lastSelected = NONE;
            lastPlace = NONE;
            selectsSincePoll = 0;
        }

        void copyFrom(Line other) {
            messages.copyFrom(other.messages);
            rows.copyFrom(other.rows);
            stations.copyFrom(other.stations);
            log.copyFrom(other.log);
            System.arraycopy(other.settings, 0, settings, 0, SETTINGS);
            System.arraycopy(other.accounts, 0, accounts, 0, ACCOUNTS);
            System.arraycopy(other.list, 0, list, 0, MAX_PLACES);
            listSize = other.listSize;
            time = other.time;
            turn = other.turn;
            seed = other.seed;
            lastTested = other.lastTested;
            lastSelected = other.lastSelected;
            lastPlace = other.lastPlace;
            selectsSincePoll = other.selectsSincePoll;
        }

        int delivered() {
            return messages.countIn(DELIVERED);
        }

        int sumOf(int[] flags) {
            int sum = 0;
            for (int i = 0; i < setup.size; i++) {
                sum += flags[i];
            }
            return sum;
        }

        boolean isOn(int terminal) {
            return setup.has(terminal) && stations.on[terminal] == 1;
        }

        /** Makes a terminal alive, 1, or dead, 0; what it was before. */
        int setLife(int terminal, int alive) {
            if (!setup.has(terminal)) {
                return 0;
            }
            int before = stations.alive[terminal];
            stations.alive[terminal] = alive;
            return before;
        }

        boolean hasPlace(int place) {
            return place >= 0 && place < listSize;
        }

        int placesWith(int terminal) {
            int places = 0;
            for (int i = 0; i < listSize; i++) {
                if (list[i] == terminal) {
                    places++;
                }
            }
            return places;
        }

        void appendPlace(int terminal) {
            if (listSize < MAX_PLACES) {
                list[listSize] = terminal;
                listSize++;
            }
        }

        void removePlace(int place) {
            if (hasPlace(place)) {
                listSize--;
                for (int i = place; i < listSize; i++) {
                    list[i] = list[i + 1];
                }
            }
        }

        int addMessage(int sender, int receiver, int length) {
            int message = messages.size;
            if (message >= MAX_MESSAGES) {
                return NONE;
            }
            messages.size++;
            messages.senders[message] = sender;
            messages.receivers[message] = receiver;
            messages.lengths[message] = length;
            messages.postTimes[message] = time;
            messages.hostTimes[message] = sender == NONE ? time : NONE;
            messages.bufferTimes[message] = NONE;
            messages.deliveryTimes[message] = NONE;
            int row = sender == NONE ? AT_HOST : OUT;
            messages.states[message] = row;
            rows.append(row, sender == NONE ? receiver : sender, message);
            return message;
        }

        /** Sends something that takes that many ticks; false if it is garbled. */
        boolean send(int ticks) {
            time += ticks;
            accounts[SENT]++;
            seed = (SEED_FACTOR * seed + SEED_SUMMAND) % SEED_DIVISOR;
            if (seed % 100 < settings[NOISE]) {
                accounts[GARBLED]++;
                return false;
            }
            return true;
        }

        /** The host takes the first message of a terminal's OUT row; the terminal keeps it until it is answered. */
        void takeAtHost(int terminal, int message) {
            accounts[TAKEN_BY_HOST]++;
            stations.hostExpectedBits[terminal] ^= 1;
            messages.hostTimes[message] = time;
            int receiver = messages.receivers[message];
            if (receiver == NONE) {
                messages.deliveryTimes[message] = time;
                messages.states[message] = DELIVERED;
            } else {
                messages.states[message] = AT_HOST;
                rows.append(AT_HOST, receiver, message);
            }
        }

        /** A message comes into the BUFFER of a terminal, from which has gone what is due by now. */
        void takeAtTerminal(int terminal, int message) {
            stations.expectedBits[terminal] ^= 1;
            if (rows.sizeOf(BUFFER, terminal) == 0) {
                stations.firstSince[terminal] = time;
            }
            messages.bufferTimes[message] = time;
            messages.states[message] = BUFFER;
            rows.append(BUFFER, terminal, message);
        }

        /** Delivers what is due by now in the BUFFER of a terminal, each message at its own time. */
        void deliverDue(int terminal) {
            for (int i = 0; i < MAX_MESSAGES; i++) {
                int message = rows.firstOf(BUFFER, terminal);
                int due = stations.firstSince[terminal] + setup.prints[terminal];
                if (!messages.has(message) || due > time) {
                    return;
                }
                rows.removeFirst(BUFFER, terminal);
                messages.deliveryTimes[message] = due;
                messages.states[message] = DELIVERED;
                stations.firstSince[terminal] = due;
            }
        }
    }

    /** The host of a line: chooses what to do in a turn, and does it. */
    private static final class Host {
        private final Line line;
        int kind = IDLE;
        int terminal = NONE;
        private int place = NONE;

        Host(Line line) {
            this.line = line;
        }

        /** Finds what is to be done in a turn with that number, and changes nothing of the line. */
        void choose(int turn) {
            kind = TEST;
            terminal = nextToTest(turn);
            if (terminal == NONE && line.selectsSincePoll < line.settings[BURST]) {
                kind = SELECT;
                terminal = nextToSelect();
            }
            if (terminal == NONE) {
                kind = POLL;
                place = nextPlace();
                terminal = line.hasPlace(place) ? line.list[place] : NONE;
            }
            if (terminal == NONE) {
                kind = SELECT;
                terminal = nextToSelect();
            }
            if (terminal == NONE) {
                kind = IDLE;
            }
        }

        private int nextToTest(int turn) {
            int revive = line.settings[REVIVE];
            if (revive <= 0 || turn % revive != 0) {
                return NONE;
            }
            int size = line.setup.size;
            for (int i = 1; i <= size; i++) {
                int next = (line.lastTested + i) % size;
                if (line.stations.on[next] == 0) {
                    return next;
                }
            }
            return NONE;
        }

        private int nextToSelect() {
            int size = line.setup.size;
            for (int i = 1; i <= size; i++) {
                int next = (line.lastSelected + i) % size;
                if (line.isOn(next) && line.rows.sizeOf(AT_HOST, next) > 0) {
                    return next;
                }
            }
            return NONE;
        }

        private int nextPlace() {
            int size = line.listSize;
            int last = line.lastPlace < size ? line.lastPlace : size - 1;
            for (int i = 1; i <= size; i++) {
                int next = (last + i) % size;
                if (line.isOn(line.list[next])) {
                    return next;
                }
            }
            return NONE;
        }

        void makeTurns(int turns) {
            for (int i = 0; i < turns; i++) {
                makeTurn();
            }
        }

        void makeTurn() {
            line.turn++;
            choose(line.turn);
            int tries = 0;
            int result = MISSED;
            if (line.setup.has(terminal)) {
                noteBeginning();
                int most = kind == TEST ? 1 : line.settings[TRIES];
                while (tries < most && result == MISSED) {
                    tries++;
                    result = kind == SELECT ? trySelect() : tryPoll();
                    if (result == MISSED) {
                        line.accounts[FAILED_TRIES]++;
                    }
                }
                noteEnd(result);
            } else {
                line.time++;
                line.accounts[IDLE_TURNS]++;
            }
            for (int i = 0; i < line.setup.size; i++) {
                line.deliverDue(i);
            }
            line.log.add(kind, terminal, result, tries, line.time);
        }

        private void noteBeginning() {
            line.stations.countOften(kind, terminal);
            if (kind == POLL) {
                line.lastPlace = place;
                line.selectsSincePoll = 0;
            } else if (kind == SELECT) {
                line.lastSelected = terminal;
                line.selectsSincePoll++;
            } else {
                line.lastTested = terminal;
                line.accounts[TESTS]++;
            }
        }

        private void noteEnd(int result) {
            Stations stations = line.stations;
            if (result != MISSED) {
                stations.misses[terminal] = 0;
                stations.on[terminal] = 1;
            } else if (kind != TEST) {
                line.accounts[MISSED_TERMINALS]++;
                stations.countOften(OFTEN_MISSED, terminal);
                stations.misses[terminal]++;
                if (stations.misses[terminal] >= line.settings[LIMIT]) {
                    stations.on[terminal] = 0;
                    line.accounts[TAKEN_OFF]++;
                }
            }
        }

        /** Sends a poll or a select; true if the terminal is about to answer it, behind its DELAY. */
        private boolean call() {
            boolean clear = line.send(1);
            boolean heard = clear && line.stations.alive[terminal] == 1;
            line.time += heard ? line.setup.delays[terminal] : line.settings[TIMEOUT];
            return heard;
        }

        private void sendNegativeAnswer() {
            line.accounts[NEGATIVE_ANSWERS]++;
            line.send(1);
        }

        /** How a try of a poll or a test ended: MISSED if it failed. */
        private int tryPoll() {
            if (!call()) {
                return MISSED;
            }
            int message = line.rows.firstOf(OUT, terminal);
            if (!line.messages.has(message)) {
                if (!line.send(1)) {
                    return MISSED;
                }
                line.accounts[EMPTY_POLLS]++;
                return NOTHING;
            }
            if (!line.send(line.messages.lengths[message])) {
                sendNegativeAnswer();
                return MISSED;
            }
            Stations stations = line.stations;
            boolean isNew = stations.ownBits[terminal] == stations.hostExpectedBits[terminal];
            if (isNew) {
                line.takeAtHost(terminal, message);
            } else {
                line.accounts[COPIES]++;
            }
            if (line.send(1)) {
                line.rows.removeFirst(OUT, terminal);
                stations.ownBits[terminal] ^= 1;
            }
            return isNew ? TAKEN : COPY;
        }

        /** How a try of a select ended: MISSED if it failed. */
        private int trySelect() {
            int message = line.rows.firstOf(AT_HOST, terminal);
            if (!line.messages.has(message) || !call()) {
                return MISSED;
            }
            line.deliverDue(terminal);
            boolean isReady = line.rows.sizeOf(BUFFER, terminal) < line.setup.rooms[terminal];
            if (!line.send(1)) {
                return MISSED;
            }
            if (!isReady) {
                line.accounts[BUSY_SELECTS]++;
                return BUSY;
            }
            if (!line.send(line.messages.lengths[message])) {
                sendNegativeAnswer();
                return MISSED;
            }
            line.deliverDue(terminal);
            Stations stations = line.stations;
            if (stations.hostBits[terminal] == stations.expectedBits[terminal]) {
                line.takeAtTerminal(terminal, message);
            } else {
                line.accounts[COPIES]++;
            }
            if (!line.send(1)) {
                return MISSED;
            }
            line.rows.removeFirst(AT_HOST, terminal);
            stations.hostBits[terminal] ^= 1;
            line.accounts[TAKEN_SELECTS]++;
            return TAKEN;
        }
    }

    /** The line as it was ahead of each of the latest changes, in a ring. */
    private static final class History {
        private final Line[] kept = new Line[MAX_CHANGES];
        private int oldest = 0;
        int size = 0;

        History(Setup setup) {
            for (int i = 0; i < MAX_CHANGES; i++) {
                kept[i] = new Line(setup);
            }
        }

        void remember(Line line) {
            kept[(oldest + size) % MAX_CHANGES].copyFrom(line);
            if (size < MAX_CHANGES) {
                size++;
            } else {
                oldest = (oldest + 1) % MAX_CHANGES;
            }
        }

        void takeBack(Line line) {
            if (size > 0) {
                size--;
                line.copyFrom(kept[(oldest + size) % MAX_CHANGES]);
            }
        }
    }

    /** The input buffer, the token of its text that is looked at, and the first error of the text. */
    private static final class Tokens {
        private static final int WORD = 0;
        private static final int NUMBER = 1;
        private static final int SEMICOLON = 2;
        private static final int END = 3;
        /** A byte of no token, or a number that is too long: it can stand nowhere. */
        private static final int WRONG = 4;
        private static final int MAX_DIGITS = 4;
        private static final int LINE_FEED = 10;

        private final int[] bytes = new int[MAX_INPUT];
        int length = 0;
        private int kind = END;
        private int start = 0;
        private int position = 0;
        int errorCode = NO_ERROR;
        int errorOffset = -1;

        void addByte(int sign) {
            if (length < MAX_INPUT) {
                bytes[length] = sign;
                length++;
            }
        }

        void addFourBytes(int signs) {
            for (int shift = 24; shift >= 0; shift -= 8) {
                addByte(signs >> shift & 255);
            }
        }

        void begin() {
            errorCode = NO_ERROR;
            errorOffset = -1;
            position = 0;
            advance();
        }

        /** Goes on to the next token. */
        void advance() {
            while (position < length && (bytes[position] == ' ' || bytes[position] == LINE_FEED)) {
                position++;
            }
            start = position;
            if (position >= length) {
                kind = END;
                return;
            }
            int sign = bytes[position];
            position++;
            if (sign >= 'a' && sign <= 'z') {
                kind = WORD;
                while (position < length && bytes[position] >= 'a' && bytes[position] <= 'z') {
                    position++;
                }
            } else if (sign >= '0' && sign <= '9') {
                while (position < length && bytes[position] >= '0' && bytes[position] <= '9') {
                    position++;
                }
                kind = position - start > MAX_DIGITS ? WRONG : NUMBER;
            } else {
                kind = sign == ';' ? SEMICOLON : WRONG;
            }
        }

        boolean isAtEnd() {
            return kind == END;
        }

        boolean isAtWord(String word) {
            if (kind != WORD || position - start != word.length()) {
                return false;
            }
            for (int i = 0; i < word.length(); i++) {
                if (bytes[start + i] != word.charAt(i)) {
                    return false;
                }
            }
            return true;
        }

        /** The NAME at which the text is, as one number; NONE if it is at something else. */
        int nameHere() {
            if (kind != WORD || position - start > NAME_LETTERS || isAtWord("host")) {
                return NONE;
            }
            int name = 0;
            for (int i = position - 1; i >= start; i--) {
                name = name << Setup.LETTER_BITS | bytes[i] - 'a' + 1;
            }
            return name;
        }

        /** The number at which the text is. */
        private int numberHere() {
            int number = 0;
            for (int i = start; i < position; i++) {
                number = 10 * number + bytes[i] - '0';
            }
            return number;
        }

        /** Reports an error of the token at which the text is. */
        boolean fail(int code) {
            errorCode = code;
            errorOffset = start;
            return false;
        }

        /** Reads a number; NONE, with an error, if there is none in the range. */
        int readNumber(int smallest, int greatest) {
            if (kind != NUMBER) {
                fail(SYNTAX);
                return NONE;
            }
            int number = numberHere();
            if (number < smallest || number > greatest) {
                fail(OUT_OF_RANGE);
                return NONE;
            }
            advance();
            return number;
        }

        boolean readSemicolon() {
            if (kind != SEMICOLON) {
                return fail(SYNTAX);
            }
            advance();
            return true;
        }
    }

    /** Reads a setup; what it tells stands here until the text is known to be right. */
    private static final class SetupReader {
        private static final int LIST_TOLD = 1;
        private static final int LINE_TOLD = 2;
        private static final int BURST_TOLD = 4;
        private static final int NOISE_TOLD = 8;
        private static final int MAX_DELAY = 9;
        private static final int MAX_ROOM = 4;
        private static final int MAX_PRINT = 30;
        private static final int MAX_SEED = 9999;
        private static final int USUAL_SEED = 1;

        private final Tokens tokens;
        final Setup draft = new Setup();
        final int[] settings = new int[SETTINGS];
        final int[] list = new int[MAX_PLACES];
        int listSize = 0;
        int seed = USUAL_SEED;
        private int told = 0;

        SetupReader(Tokens tokens) {
            this.tokens = tokens;
        }

        boolean readText() {
            draft.size = 0;
            System.arraycopy(USUAL, 0, settings, 0, SETTINGS);
            listSize = 0;
            seed = USUAL_SEED;
            told = 0;
            tokens.begin();
            for (int i = 0; i < MAX_INPUT && !tokens.isAtEnd(); i++) {
                if (!readStatement() || !tokens.readSemicolon()) {
                    return false;
                }
            }
            return draft.size > 0 || tokens.fail(SYNTAX);
        }

        private boolean readStatement() {
            if (tokens.isAtWord("terminal")) {
                return readTerminal();
            }
            if (tokens.isAtWord("list")) {
                return beginOnce(LIST_TOLD) && readList();
            }
            if (tokens.isAtWord("line")) {
                return beginOnce(LINE_TOLD) && readSettings(TIMEOUT, REVIVE);
            }
            if (tokens.isAtWord("burst")) {
                return beginOnce(BURST_TOLD) && readSettings(BURST, BURST);
            }
            if (tokens.isAtWord("noise")) {
                return beginOnce(NOISE_TOLD) && readSettings(NOISE, NOISE) && readSeed();
            }
            return tokens.fail(SYNTAX);
        }

        private boolean beginOnce(int statement) {
            if ((told & statement) != 0) {
                return tokens.fail(REPEATED);
            }
            told |= statement;
            tokens.advance();
            return true;
        }

        private boolean readTerminal() {
            if (draft.size >= MAX_TERMINALS) {
                return tokens.fail(TOO_MANY);
            }
            tokens.advance();
            int name = tokens.nameHere();
            if (name == NONE) {
                return tokens.fail(SYNTAX);
            }
            if (draft.find(name) != NONE) {
                return tokens.fail(REPEATED);
            }
            draft.addTerminal(name);
            tokens.advance();
            return readOption("delay", draft.delays, 1, MAX_DELAY)
                    && readOption("room", draft.rooms, 1, MAX_ROOM)
                    && readOption("print", draft.prints, 0, MAX_PRINT);
        }

        /** Reads a word with its number for the terminal that was told last, if they stand there. */
        private boolean readOption(String word, int[] values, int smallest, int greatest) {
            if (!tokens.isAtWord(word)) {
                return true;
            }
            tokens.advance();
            int value = tokens.readNumber(smallest, greatest);
            int latest = draft.size - 1;
            if (value == NONE || latest < 0) {
                return false;
            }
            values[latest] = value;
            return true;
        }

        private boolean readList() {
            for (int i = 0; i < MAX_INPUT; i++) {
                int name = tokens.nameHere();
                if (name == NONE) {
                    // The statement's end is looked for by the caller, which reports another token.
                    return listSize > 0 || tokens.fail(SYNTAX);
                }
                int terminal = draft.find(name);
                if (terminal == NONE) {
                    return tokens.fail(UNKNOWN);
                }
                if (listSize >= MAX_PLACES) {
                    return tokens.fail(TOO_MANY);
                }
                list[listSize] = terminal;
                listSize++;
                tokens.advance();
            }
            return tokens.fail(SYNTAX);
        }

        private boolean readSettings(int from, int to) {
            for (int i = from; i <= to; i++) {
                int value = tokens.readNumber(SMALLEST[i], GREATEST[i]);
                if (value == NONE) {
                    return false;
                }
                settings[i] = value;
            }
            return true;
        }

        private boolean readSeed() {
            int value = tokens.readNumber(0, MAX_SEED);
            if (value == NONE) {
                return false;
            }
            seed = value;
            return true;
        }
    }

    /** Reads a script, and keeps its statements until the text is known to be right. */
    private static final class Script {
        static final int POST = 0;
        static final int KILL = 1;
        static final int WAKE = 2;
        static final int TURNS = 3;
        static final int ADD = 4;
        static final int DROP = 5;
        private static final int NOBODY = -2;

        private final Tokens tokens;
        private final Setup setup;
        final int[] verbs = new int[MAX_STATEMENTS];
        /** The sender of a post, otherwise the only number or terminal of a statement. */
        final int[] first = new int[MAX_STATEMENTS];
        final int[] second = new int[MAX_STATEMENTS];
        final int[] third = new int[MAX_STATEMENTS];
        int size = 0;

        Script(Tokens tokens, Setup setup) {
            this.tokens = tokens;
            this.setup = setup;
        }

        boolean readText() {
            size = 0;
            tokens.begin();
            for (int i = 0; i < MAX_INPUT && !tokens.isAtEnd(); i++) {
                int verb = verbHere();
                if (verb == NONE) {
                    return tokens.fail(SYNTAX);
                }
                if (size >= MAX_STATEMENTS) {
                    return tokens.fail(TOO_MANY);
                }
                tokens.advance();
                verbs[size] = verb;
                if (!readRest(verb) || !tokens.readSemicolon()) {
                    return false;
                }
                size++;
            }
            return true;
        }

        private int verbHere() {
            if (tokens.isAtWord("post")) {
                return POST;
            }
            if (tokens.isAtWord("kill")) {
                return KILL;
            }
            if (tokens.isAtWord("wake")) {
                return WAKE;
            }
            if (tokens.isAtWord("turns")) {
                return TURNS;
            }
            if (tokens.isAtWord("add")) {
                return ADD;
            }
            return tokens.isAtWord("drop") ? DROP : NONE;
        }

        private boolean readRest(int verb) {
            switch (verb) {
                case POST:
                    return readPost();
                case TURNS:
                    first[size] = tokens.readNumber(1, MAX_TRIAL);
                    return first[size] != NONE;
                case DROP:
                    first[size] = tokens.readNumber(0, MAX_PLACES - 1);
                    return first[size] != NONE;
                default:
                    if (tokens.isAtWord("host")) {
                        return tokens.fail(SYNTAX);
                    }
                    first[size] = readWho(NOBODY);
                    return first[size] != NOBODY;
            }
        }

        private boolean readPost() {
            first[size] = readWho(NOBODY);
            if (first[size] == NOBODY) {
                return false;
            }
            second[size] = readWho(first[size]);
            if (second[size] == NOBODY) {
                return false;
            }
            third[size] = tokens.readNumber(1, MAX_LENGTH);
            return third[size] != NONE;
        }

        /** Reads a WHO other than that one: NONE for the host; NOBODY, with an error, if there is none. */
        private int readWho(int other) {
            int who = NONE;
            if (!tokens.isAtWord("host")) {
                int name = tokens.nameHere();
                who = setup.find(name);
                if (who == NONE) {
                    tokens.fail(name == NONE ? SYNTAX : UNKNOWN);
                    return NOBODY;
                }
            }
            if (who == other) {
                tokens.fail(REPEATED);
                return NOBODY;
            }
            tokens.advance();
            return who;
        }
    }
}
