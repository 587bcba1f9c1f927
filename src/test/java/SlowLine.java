import java.util.ArrayList;
import java.util.Arrays;
import java.util.List;
import java.util.NoSuchElementException;

/** The document once more, as plainly as can be: time passes tick by tick, and everything that is kept is a deep copy. */
final class SlowLine implements Asked {
    private static final String[] SETUP_ONCE = {"list", "line", "burst", "noise"};
    private static final int[] LOW = {1, 1, 1, 0, 0, 0};
    private static final int[] HIGH = {20, 5, 5, 20, 5, 99};

    private static final class Terminal {
        String name;
        int delay = 2, room = 2, print = 5, misses;
        boolean dead, off;
        boolean ownBit, expects, hostBit, hostExpects;
        int firstSince;
        List<Integer> out = new ArrayList<>(), hostRow = new ArrayList<>(), buffer = new ArrayList<>();
        int[] often = new int[4];

        Terminal copy() {
            Terminal t = new Terminal();
            t.name = name; t.delay = delay; t.room = room; t.print = print; t.misses = misses;
            t.dead = dead; t.off = off;
            t.ownBit = ownBit; t.expects = expects; t.hostBit = hostBit; t.hostExpects = hostExpects;
            t.firstSince = firstSince;
            t.out.addAll(out); t.hostRow.addAll(hostRow); t.buffer.addAll(buffer);
            t.often = often.clone();
            return t;
        }
    }

    private static final class State {
        List<Terminal> terminals = new ArrayList<>();
        List<int[]> messages = new ArrayList<>();
        List<Integer> list = new ArrayList<>();
        List<int[]> turns = new ArrayList<>();
        int[] settings = {5, 3, 2, 8, 1, 0};
        int[] accounts = new int[13];
        int time, turn, seed = 1, tested = -1, selected = -1, polledPlace = -1, selects;

        State copy() {
            State s = new State();
            for (Terminal t : terminals) s.terminals.add(t.copy());
            for (int[] m : messages) s.messages.add(m.clone());
            s.list.addAll(list);
            for (int[] t : turns) s.turns.add(t.clone());
            s.settings = settings.clone(); s.accounts = accounts.clone();
            s.time = time; s.turn = turn; s.seed = seed;
            s.tested = tested; s.selected = selected; s.polledPlace = polledPlace; s.selects = selects;
            return s;
        }

        int delivered() {
            int n = 0;
            for (int[] m : messages) if (m[3] == 3) n++;
            return n;
        }

        void deliverAtThisTick(Terminal t) {
            while (!t.buffer.isEmpty() && t.firstSince + t.print == time) {
                int[] m = messages.get(t.buffer.remove(0));
                m[3] = 3; m[7] = time;
                t.firstSince = time;
            }
        }

        void pass(int ticks) {
            for (int i = 0; i < ticks; i++) {
                time++;
                for (Terminal t : terminals) deliverAtThisTick(t);
            }
        }

        boolean garbled(int ticks) {
            pass(ticks);
            accounts[0]++;
            seed = (int) ((75L * seed + 74) % 65537);
            boolean garbled = seed % 100 < settings[5];
            if (garbled) accounts[1]++;
            return garbled;
        }

        /** 0 to 2 and a terminal, for a poll the place, too. */
        int[] next(int turn) {
            if (settings[3] > 0 && turn % settings[3] == 0) {
                for (int i = 1; i <= terminals.size(); i++) {
                    int t = (tested + i) % terminals.size();
                    if (terminals.get(t).off) return new int[] {2, t, -1};
                }
            }
            for (int round = 0; round < 2; round++) {
                if (round == 1 || selects < settings[4]) {
                    for (int i = 1; i <= terminals.size(); i++) {
                        int t = (selected + i) % terminals.size();
                        if (!terminals.get(t).off && !terminals.get(t).hostRow.isEmpty()) return new int[] {1, t, -1};
                    }
                }
                if (round == 0) {
                    int last = Math.min(polledPlace, list.size() - 1);
                    for (int i = 1; i <= list.size(); i++) {
                        int p = (last + i) % list.size();
                        if (!terminals.get(list.get(p)).off) return new int[] {0, list.get(p), p};
                    }
                }
            }
            return new int[] {3, -1, -1};
        }

        void makeTurn() {
            turn++;
            int[] what = next(turn);
            int result = 0;
            int tries = 0;
            if (what[0] == 3) {
                pass(1);
                accounts[12]++;
            } else {
                Terminal t = terminals.get(what[1]);
                t.often[what[0]]++;
                if (what[0] == 0) { polledPlace = what[2]; selects = 0; }
                if (what[0] == 1) { selected = what[1]; selects++; }
                if (what[0] == 2) { tested = what[1]; accounts[11]++; }
                int most = what[0] == 2 ? 1 : settings[1];
                for (; tries < most && result == 0; tries++) {
                    result = what[0] == 1 ? select(t) : poll(t);
                    if (result == 0) accounts[7]++;
                }
                if (result > 0) { t.misses = 0; t.off = false; }
                if (result == 0 && what[0] != 2) {
                    accounts[8]++;
                    t.often[3]++;
                    if (++t.misses >= settings[2]) { t.off = true; accounts[9]++; }
                }
            }
            turns.add(0, new int[] {what[0], what[1], result, tries, time});
        }

        int poll(Terminal t) {
            if (garbled(1) || t.dead) { pass(settings[0]); return 0; }
            pass(t.delay);
            if (t.out.isEmpty()) {
                if (garbled(1)) return 0;
                accounts[2]++;
                return 1;
            }
            int[] m = messages.get(t.out.get(0));
            if (garbled(m[2])) { accounts[10]++; garbled(1); return 0; }
            int result;
            if (t.ownBit == t.hostExpects) {
                result = 2;
                accounts[3]++;
                m[5] = time;
                if (m[1] == -1) { m[3] = 3; m[7] = time; } else { m[3] = 1; terminals.get(m[1]).hostRow.add(t.out.get(0)); }
                t.hostExpects = !t.hostExpects;
            } else {
                result = 3;
                accounts[4]++;
            }
            if (!garbled(1)) { t.out.remove(0); t.ownBit = !t.ownBit; }
            return result;
        }

        int select(Terminal t) {
            if (garbled(1) || t.dead) { pass(settings[0]); return 0; }
            pass(t.delay);
            boolean ready = t.buffer.size() < t.room;
            if (garbled(1)) return 0;
            if (!ready) { accounts[6]++; return 4; }
            int[] m = messages.get(t.hostRow.get(0));
            if (garbled(m[2])) { accounts[10]++; garbled(1); return 0; }
            if (t.hostBit == t.expects) {
                m[3] = 2; m[6] = time;
                if (t.buffer.isEmpty()) t.firstSince = time;
                t.buffer.add(t.hostRow.get(0));
                t.expects = !t.expects;
                deliverAtThisTick(t);
            } else {
                accounts[4]++;
            }
            if (garbled(1)) return 0;
            t.hostRow.remove(0);
            t.hostBit = !t.hostBit;
            accounts[5]++;
            return 2;
        }
    }

    private State now;
    private State saved;
    private final List<State> kept = new ArrayList<>();
    private StringBuilder input = new StringBuilder();
    private String output = "";
    private int errorCode;
    private int errorOffset = -1;

    SlowLine() {
        input.append("terminal a; terminal b; list a b;");
        loadLine();
    }

    public int appendInput(int a, int b, int c, int d, int e) {
        if (input.length() + 20 > 600) return -1;
        for (int word : new int[] {a, b, c, d, e}) {
            for (int i = 3; i >= 0; i--) input.append((char) (word >>> 8 * i & 255));
        }
        return input.length();
    }

    public boolean truncateInput(int length) {
        if (length < 0 || length > input.length()) return false;
        input.setLength(length);
        return true;
    }

    // ---- texts ----

    private static final class Wrong extends RuntimeException {
        private static final long serialVersionUID = 1;
        final int code;
        final int offset;

        Wrong(int code, int offset) {
            this.code = code;
            this.offset = offset;
        }
    }

    private String text;
    private int at;
    private int tokenAt;

    /** The next token as text ("" at the end, "?" for what is none); goes behind it. */
    private String token() {
        while (at < text.length() && (text.charAt(at) == ' ' || text.charAt(at) == '\n')) at++;
        tokenAt = at;
        if (at == text.length()) return "";
        java.util.regex.Matcher m = java.util.regex.Pattern.compile("[a-z]+|[0-9]+|;").matcher(text).region(at, text.length());
        if (!m.lookingAt()) return "?";
        at = m.end();
        return m.group().matches("[0-9]{5,}") ? "?" : m.group();
    }

    private String peek() {
        int before = at;
        String token = token();
        at = before;
        return token;
    }

    private Wrong wrong(int code) {
        return new Wrong(code, tokenAt);
    }

    private int number(int low, int high) {
        String token = token();
        if (!token.matches("[0-9]+")) throw wrong(1);
        int n = Integer.parseInt(token);
        if (n < low || n > high) throw wrong(2);
        return n;
    }

    private static boolean isName(String token) {
        return token.matches("[a-z]{1,6}") && !token.equals("host");
    }

    private static int find(State s, String name) {
        for (int i = 0; i < s.terminals.size(); i++) if (s.terminals.get(i).name.equals(name)) return i;
        return -1;
    }

    private int known(State s, boolean orHost) {
        String token = token();
        if (orHost && token.equals("host")) return -1;
        if (!isName(token)) throw wrong(1);
        if (find(s, token) < 0) throw wrong(3);
        return find(s, token);
    }

    private State readSetup() {
        State s = new State();
        List<String> told = new ArrayList<>();
        for (String first = token(); !first.isEmpty(); first = token()) {
            if (first.equals("terminal")) {
                if (s.terminals.size() == 8) throw wrong(5);
                String name = token();
                if (!isName(name)) throw wrong(1);
                if (find(s, name) >= 0) throw wrong(4);
                Terminal t = new Terminal();
                t.name = name;
                s.terminals.add(t);
                if (peek().equals("delay")) { token(); t.delay = number(1, 9); }
                if (peek().equals("room")) { token(); t.room = number(1, 4); }
                if (peek().equals("print")) { token(); t.print = number(0, 30); }
            } else if (Arrays.asList(SETUP_ONCE).contains(first)) {
                if (told.contains(first)) throw wrong(4);
                told.add(first);
                if (first.equals("list")) {
                    do {
                        int t = known(s, false);
                        if (s.list.size() == 16) throw wrong(5);
                        s.list.add(t);
                    } while (!peek().equals(";"));
                }
                if (first.equals("line")) for (int i = 0; i < 4; i++) s.settings[i] = number(LOW[i], HIGH[i]);
                if (first.equals("burst")) s.settings[4] = number(0, 5);
                if (first.equals("noise")) { s.settings[5] = number(0, 99); s.seed = number(0, 9999); }
            } else {
                throw wrong(1);
            }
            if (!token().equals(";")) throw wrong(1);
        }
        if (s.terminals.isEmpty()) throw wrong(1);
        return s;
    }

    private List<int[]> readScript() {
        List<int[]> statements = new ArrayList<>();
        List<String> verbs = Arrays.asList("post", "kill", "wake", "turns", "add", "drop");
        for (String first = token(); !first.isEmpty(); first = token()) {
            int verb = verbs.indexOf(first);
            if (verb < 0) throw wrong(1);
            if (statements.size() == 30) throw wrong(5);
            int[] s = {verb, 0, 0, 0};
            if (verb == 0) {
                s[1] = known(now, true);
                s[2] = known(now, true);
                if (s[1] == s[2]) throw wrong(4);
                s[3] = number(1, 20);
            } else if (verb == 3) {
                s[1] = number(1, 50);
            } else if (verb == 5) {
                s[1] = number(0, 15);
            } else {
                s[1] = known(now, false);
            }
            if (!token().equals(";")) throw wrong(1);
            statements.add(s);
        }
        return statements;
    }

    private void begin() {
        text = input.toString();
        at = 0;
        input = new StringBuilder();
        errorCode = 0;
        errorOffset = -1;
    }

    public int loadLine() {
        begin();
        try {
            now = readSetup();
        } catch (Wrong e) {
            errorCode = e.code;
            errorOffset = e.offset;
            return -1;
        }
        kept.clear();
        saved = null;
        return now.terminals.size();
    }

    public int playScript() {
        begin();
        List<int[]> statements;
        try {
            statements = readScript();
        } catch (Wrong e) {
            errorCode = e.code;
            errorOffset = e.offset;
            return -1;
        }
        State before = now.copy();
        List<State> keptBefore = new ArrayList<>(kept);
        int done = 0;
        try {
            for (int[] s : statements) {
                switch (s[0]) {
                    case 0: post(s[1], s[2], s[3]); break;
                    case 1: kill(s[1]); break;
                    case 2: wake(s[1]); break;
                    case 3: run(s[1]); break;
                    case 4: addPlace(s[1]); break;
                    default: dropPlace(s[1]); break;
                }
                done++;
            }
        } catch (RuntimeException e) {
            // That is where a script stops.
        }
        kept.clear();
        kept.addAll(keptBefore);
        keep(before);
        return done;
    }

    public int errorCode() { return errorCode; }

    public int errorOffset() { return errorOffset; }

    // ---- questions ----

    private static void range(int n, int low, int high) {
        if (n < low || n > high) throw new IllegalArgumentException();
    }

    private Terminal get(int terminal) {
        if (terminal < 0 || terminal >= now.terminals.size()) throw new IndexOutOfBoundsException();
        return now.terminals.get(terminal);
    }

    public int count(int what) {
        range(what, 0, 12);
        int n = 0;
        switch (what) {
            case 0: return now.terminals.size();
            case 1: return now.list.size();
            case 2: return now.messages.size();
            case 3: return now.time;
            case 4: return now.turn;
            case 5: return now.seed;
            case 10: return Integer.bitCount(off());
            case 11: for (Terminal t : now.terminals) n += t.dead ? 1 : 0; return n;
            case 12: return kept.size();
            default: for (int[] m : now.messages) n += m[3] == what - 6 ? 1 : 0; return n;
        }
    }

    public int account(int what) {
        range(what, 0, 12);
        return now.accounts[what];
    }

    public int setting(int setting) {
        range(setting, 0, 5);
        return now.settings[setting];
    }

    public int terminal(int terminal, int what) {
        Terminal t = get(terminal);
        range(what, 0, 13);
        int places = 0;
        for (int p : now.list) places += p == terminal ? 1 : 0;
        return new int[] {t.delay, t.room, t.print, t.dead ? 0 : 1, t.off ? 0 : 1, t.misses, t.out.size(), t.hostRow.size(),
            t.buffer.size(), places, t.ownBit ? 1 : 0, t.expects ? 1 : 0, t.hostBit ? 1 : 0, t.hostExpects ? 1 : 0}[what];
    }

    public int nameLetter(int terminal, int index) {
        String name = get(terminal).name;
        return index < 0 || index >= name.length() ? 0 : name.charAt(index) - 'a' + 1;
    }

    public int message(int message, int what) {
        if (message < 0 || message >= now.messages.size()) throw new IndexOutOfBoundsException();
        range(what, 0, 7);
        return now.messages.get(message)[what];
    }

    public int inRow(int terminal, int row, int index) {
        Terminal t = get(terminal);
        range(row, 0, 2);
        List<Integer> messages = row == 0 ? t.out : row == 1 ? t.hostRow : t.buffer;
        return index < 0 || index >= messages.size() ? -1 : messages.get(index);
    }

    public int place(int place) {
        if (place < 0 || place >= now.list.size()) throw new IndexOutOfBoundsException();
        return now.list.get(place);
    }

    public int off() {
        int set = 0;
        for (int i = 0; i < now.terminals.size(); i++) if (now.terminals.get(i).off) set += 1 << i;
        return set;
    }

    public int turn(int index, int what) {
        if (index < 0 || index >= Math.min(20, now.turns.size())) throw new IndexOutOfBoundsException();
        range(what, 0, 4);
        return now.turns.get(index)[what];
    }

    public int nextKind() { return now.next(now.turn + 1)[0]; }

    public int nextTerminal() { return now.next(now.turn + 1)[1]; }

    public int gap() { return 0; }

    private State ahead(int turns) {
        State s = now.copy();
        for (int i = 0; i < turns; i++) s.makeTurn();
        return s;
    }

    public int deliveredIn(int turns) {
        range(turns, 0, 100);
        return ahead(turns).delivered();
    }

    public int timeIn(int turns) {
        range(turns, 0, 100);
        return ahead(turns).time;
    }

    public int deliversIn(int message) {
        if (message < 0 || message >= now.messages.size()) throw new IndexOutOfBoundsException();
        State s = now.copy();
        for (int i = 0; i <= 200; i++, s.makeTurn()) if (s.messages.get(message)[3] == 3) return i;
        return -1;
    }

    public int quietIn() {
        State s = now.copy();
        for (int i = 0; i <= 200; i++, s.makeTurn()) if (s.delivered() == s.messages.size()) return i;
        return -1;
    }

    public int switchesIn(int terminal) {
        boolean off = get(terminal).off;
        State s = now.copy();
        for (int i = 0; i <= 200; i++, s.makeTurn()) if (s.terminals.get(terminal).off != off) return i;
        return -1;
    }

    public int bestTries(int turns) {
        range(turns, 1, 50);
        int best = 5;
        int[] delivered = new int[6];
        for (int tries = 5; tries >= 1; tries--) {
            State s = now.copy();
            s.settings[1] = tries;
            for (int i = 0; i < turns; i++) s.makeTurn();
            delivered[tries] = s.delivered();
            if (delivered[tries] >= delivered[best]) best = tries;
        }
        return best;
    }

    public int lostByNoise(int turns) {
        range(turns, 1, 100);
        State s = now.copy();
        s.settings[5] = 0;
        for (int i = 0; i < turns; i++) s.makeTurn();
        return s.delivered() - ahead(turns).delivered();
    }

    public int worst() {
        int worst = -1;
        for (int i = now.terminals.size() - 1; i >= 0; i--) {
            int missed = now.terminals.get(i).often[3];
            if (missed > 0 && (worst < 0 || missed >= now.terminals.get(worst).often[3])) worst = i;
        }
        return worst;
    }

    public int often(int terminal, int what) {
        Terminal t = get(terminal);
        range(what, 0, 3);
        return t.often[what];
    }

    public double meanTime() {
        double sum = 0;
        double n = 0;
        for (int[] m : now.messages) {
            if (m[3] == 3) {
                n++;
                sum += m[7] - m[4];
            }
        }
        return n == 0 ? 0 : sum / n;
    }

    public float clearShare() {
        return now.accounts[0] == 0 ? 1 : (float) (now.accounts[0] - now.accounts[1]) / (float) now.accounts[0];
    }

    // ---- changes ----

    private void keep(State state) {
        kept.add(state);
        if (kept.size() > 8) kept.remove(0);
    }

    public int post(int sender, int receiver, int length) {
        if (sender != -1) get(sender);
        if (receiver != -1) get(receiver);
        if (sender == receiver) throw new IllegalArgumentException();
        range(length, 1, 20);
        int number = now.messages.size();
        if (number == 40) throw new IllegalStateException();
        keep(now.copy());
        boolean host = sender == -1;
        now.messages.add(new int[] {sender, receiver, length, host ? 1 : 0, now.time, host ? now.time : -1, -1, -1});
        (host ? now.terminals.get(receiver).hostRow : now.terminals.get(sender).out).add(number);
        return number;
    }

    public int kill(int terminal) {
        int was = get(terminal).dead ? 0 : 1;
        keep(now.copy());
        get(terminal).dead = true;
        return was;
    }

    public int wake(int terminal) {
        int was = get(terminal).dead ? 0 : 1;
        keep(now.copy());
        get(terminal).dead = false;
        return was;
    }

    public int run(int turns) {
        range(turns, 1, 100);
        range(now.turn + turns, 0, 9999);
        keep(now.copy());
        int before = now.delivered();
        for (int i = 0; i < turns; i++) now.makeTurn();
        return now.delivered() - before;
    }

    public int addPlace(int terminal) {
        get(terminal);
        if (now.list.size() == 16) throw new IllegalStateException();
        keep(now.copy());
        now.list.add(terminal);
        return now.list.size();
    }

    public int dropPlace(int place) {
        place(place);
        keep(now.copy());
        return now.list.remove(place);
    }

    public int set(int setting, int value) {
        range(setting, 0, 5);
        range(value, LOW[setting], HIGH[setting]);
        keep(now.copy());
        int before = now.settings[setting];
        now.settings[setting] = value;
        return before;
    }

    public int undo() {
        if (kept.isEmpty()) throw new NoSuchElementException();
        now = kept.remove(kept.size() - 1);
        return kept.size();
    }

    public int printTerminals() {
        List<String> parts = new ArrayList<>();
        for (Terminal t : now.terminals) {
            parts.add(t.name + (t.off ? "-" : "") + (t.dead ? "x" : "") + ":" + t.out.size() + "/" + t.hostRow.size() + "/" + t.buffer.size());
        }
        output = String.join(" ", parts);
        return output.length();
    }

    public int printList() {
        List<String> parts = new ArrayList<>();
        for (int t : now.list) parts.add(now.terminals.get(t).name);
        output = String.join(" ", parts);
        return output.length();
    }

    public int outputByte(int index) {
        return index < 0 || index >= output.length() ? -1 : output.charAt(index);
    }

    public int saveState() {
        saved = now.copy();
        return now.time;
    }

    public int restoreState() {
        if (saved == null) throw new NoSuchElementException();
        now = saved.copy();
        kept.clear();
        return now.time;
    }
}
