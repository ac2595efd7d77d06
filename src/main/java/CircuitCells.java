import java.util.Arrays;
import java.util.NoSuchElementException;

/** A circuit line carried in packets, as ../shared/DOC.md tells it. */
public final class CircuitCells {
    public static final int NONE = -1;

    private static final int IDLE = 0;
    private static final int FILLING = 1;
    private static final int PLAYING = 2;

    private static final int MOST_BYTES = 700;
    private static final int BYTES_A_FEED = 20;
    private static final int MOST_TIME = 20000;
    private static final int NUMBERS = 64;
    private static final int STAMPS = 256;
    private static final int SAME = 10000;
    private static final int NOTHING_REGAINED = 10000;
    private static final int KEPT = 128;
    private static final int IDLE_OCTET = 126;
    private static final int FAR_AHEAD = 400;

    private static final int TEXTS = 0;
    private static final int ACTS = 1;
    private static final int NOTES = 2;

    private final Reader reader = new Reader();
    private Line told = new Line();
    private final Session now = new Session();
    private final Session kept = new Session();
    private boolean hasImage;
    private final Forecast forecast = new Forecast();

    public CircuitCells() {
        now.begin(told);
    }

    public int feed(int a, int b, int c, int d, int e) {
        if (reader.taped + BYTES_A_FEED > MOST_BYTES) {
            return NONE;
        }
        reader.addBytes(a);
        reader.addBytes(b);
        reader.addBytes(c);
        reader.addBytes(d);
        reader.addBytes(e);
        return reader.taped;
    }

    public int line(int n) throws IllegalArgumentException {
        if (n < 0 || n > reader.taped) {
            throw new IllegalArgumentException("the tape has not so many bytes");
        }
        int fault = reader.read(n);
        if (fault != 0) {
            now.refuse(TEXTS);
            return fault;
        }
        told = reader.exchange(told);
        now.begin(told);
        hasImage = false;
        return 0;
    }

    public int fault() {
        return reader.place;
    }

    public int count(int what) throws NoSuchElementException {
        World world = now.world;
        switch (what) {
            case 0: return world.time;
            case 1: return world.far.made;
            case 2: return world.far.sent;
            case 3: return world.far.lost;
            case 4: return world.far.flying;
            case 5: return world.near.buffer.late;
            case 6: return world.near.buffer.beyond;
            case 7: return world.near.log.heard;
            case 8: return world.near.log.filled;
            case 9: return world.near.level(told.size);
            case 10: return world.near.state;
            case 11: return world.near.control;
            case 12: return world.near.integral;
            case 13: return world.near.regained(told.size);
            case 14: return world.near.resets;
            case 15: return world.near.log.wrong;
            case 16: return world.near.log.samplesKept();
            case 17: return now.acts;
            case 18: return now.noted;
            case 19: return reader.taped;
            case 20: return at(now.status, TEXTS);
            case 21: return at(now.status, ACTS);
            case 22: return at(now.status, NOTES);
            default: throw new NoSuchElementException("no such count");
        }
    }

    public int set(int what) throws NoSuchElementException {
        World world = now.world;
        switch (what) {
            case 0: return told.size;
            case 1: return world.near.target;
            case 2: return told.p;
            case 3: return told.i;
            case 4: return told.every;
            case 5: return world.far.offset;
            case 6: return told.frame;
            case 7: return told.words;
            case 8: return world.near.fill;
            case 9: return world.far.losses;
            case 10: return world.far.stall;
            case 11: return world.far.phase;
            case 12: return world.near.phase;
            case 13: return mod(world.near.buffer.place, NUMBERS * told.size);
            case 14: return world.near.error;
            default: throw new NoSuchElementException("no such setting");
        }
    }

    public int flying(int i, int what) throws NoSuchElementException {
        Far far = now.world.far;
        if (i < 0 || i >= far.flying || what < 0 || what > 2) {
            throw new NoSuchElementException("no such packet in flight");
        }
        if (what == 0) {
            return at(far.which, i);
        }
        return what == 1 ? at(far.due, i) : at(far.stamp, i);
    }

    public int slot(int number) throws NoSuchElementException {
        if (number < 0 || number >= NUMBERS) {
            throw new NoSuchElementException("no such number");
        }
        return now.world.near.buffer.waiting(number, told.size);
    }

    public int played(int i, int what) throws NoSuchElementException {
        Log log = now.world.near.log;
        if (i < 0 || i >= log.octetsKept() || what < 0 || what > 1) {
            throw new NoSuchElementException("no such octet");
        }
        if (what == 0) {
            return log.latest(i);
        }
        return log.latestIsFilled(i) ? 1 : 0;
    }

    public int spans(int least, int i) throws NoSuchElementException, IllegalArgumentException {
        if (least < 1 || least > KEPT) {
            throw new IllegalArgumentException("not 1 to 128");
        }
        int answer = now.world.near.log.longRows(least, i);
        if (answer < 0) {
            throw new NoSuchElementException("no such span");
        }
        return answer;
    }

    public int sample(int i) throws NoSuchElementException {
        Log log = now.world.near.log;
        if (i < 0 || i >= log.samplesKept()) {
            throw new NoSuchElementException("no such sample");
        }
        return log.sampleAt(i);
    }

    public int wander(int samples) throws IllegalArgumentException {
        if (samples < 2 || samples > KEPT) {
            throw new IllegalArgumentException("not 2 to 128");
        }
        return now.world.near.log.widest(samples);
    }

    public int steps(int many) {
        if (many < 1 || many > 50 || now.world.time + many > MOST_TIME) {
            now.refuse(ACTS);
            return NONE;
        }
        now.act(told, World.STEPS, many);
        return now.world.time;
    }

    public int lose(int packets) {
        int old = now.world.far.losses;
        if (packets < 0 || packets > 20 || packets == old) {
            now.refuse(ACTS);
            return NONE;
        }
        now.act(told, World.LOSSES, packets);
        return old;
    }

    public int stall(int steps) {
        int old = now.world.far.stall;
        if (steps < 0 || steps > 30 || steps == old) {
            now.refuse(ACTS);
            return NONE;
        }
        now.act(told, World.STALL, steps);
        return old;
    }

    public int turn(int what, int number) throws NoSuchElementException {
        if (what < 0 || what > 2) {
            throw new NoSuchElementException("nothing to turn");
        }
        int old = turnable(what);
        if (!canTurn(what, number) || number == old) {
            now.refuse(ACTS);
            return SAME;
        }
        now.act(told, what == 0 ? World.OFFSET : what == 1 ? World.FILL : World.TARGET, number);
        return old;
    }

    public int undo() {
        return now.takeBack(told);
    }

    public int then(int steps, int what) throws NoSuchElementException, IllegalArgumentException {
        if (what < 0 || what > 5) {
            throw new NoSuchElementException("no such question");
        }
        if (steps < 0 || steps > FAR_AHEAD) {
            throw new IllegalArgumentException("not 0 to 400");
        }
        return forecast.behind(now.world, told, steps, what);
    }

    public int when(int what) throws NoSuchElementException {
        if (what < 0 || what > 3) {
            throw new NoSuchElementException("no such question");
        }
        return what == 0 ? forecast.firstPlaying(now.world, told) : forecast.firstOf(now.world, told, what);
    }

    public int settles() {
        return forecast.firstSettled(now.world, told);
    }

    public int toAim(int steps, int what) throws NoSuchElementException, IllegalArgumentException {
        if (what < 0 || what > 1) {
            throw new NoSuchElementException("no such question");
        }
        if (steps < 1 || steps > FAR_AHEAD) {
            throw new IllegalArgumentException("not 1 to 400");
        }
        forecast.findTarget(now.world, told, steps);
        return what == 0 ? forecast.best : forecast.bestCost;
    }

    public int toGain(int steps, int what) throws NoSuchElementException, IllegalArgumentException {
        if (what < 0 || what > 1) {
            throw new NoSuchElementException("no such question");
        }
        if (steps < 1 || steps > FAR_AHEAD) {
            throw new IllegalArgumentException("not 1 to 400");
        }
        forecast.findGains(now.world, told, steps);
        return what == 0 ? forecast.best : forecast.bestCost;
    }

    public int note(int steps, int level) {
        if (now.noted >= Session.MOST_NOTES || steps < 0 || steps > 60 || level < 0 || level > 999) {
            now.refuse(NOTES);
            return NONE;
        }
        return now.keepNote(steps, level);
    }

    public int other(int what) throws NoSuchElementException {
        if (what < 0 || what > 2) {
            throw new NoSuchElementException("no such question");
        }
        if (what == 2) {
            return forecast.agrees(now, told, now.world.far.offset) ? 1 : 0;
        }
        forecast.findOthers(now, told);
        return what == 0 ? forecast.others : forecast.leastOther;
    }

    public int look(int what) throws NoSuchElementException {
        if (what < 0 || what > 1) {
            throw new NoSuchElementException("no such question");
        }
        forecast.findOthers(now, told);
        forecast.findLook();
        return what == 0 ? forecast.best : forecast.bestCost;
    }

    public void forget() {
        now.noted = 0;
    }

    public int storms(int packets, int tenths) throws IllegalArgumentException {
        if (packets < 1 || packets > 5 || tenths < 0 || tenths > 10) {
            throw new IllegalArgumentException("not 1 to 5 packets, 0 to 10 tenths");
        }
        return forecast.unharmed(now.world, told, packets, tenths);
    }

    public int years(int seed, int n, int what) throws NoSuchElementException, IllegalArgumentException {
        if (what < 0 || what > 2) {
            throw new NoSuchElementException("no such question");
        }
        if (n < 0 || n > 60) {
            throw new IllegalArgumentException("not 0 to 60");
        }
        return forecast.byChance(now.world, told, seed, n, what);
    }

    public void image() {
        kept.copyFrom(now);
        hasImage = true;
    }

    public boolean restore() {
        if (!hasImage) {
            return false;
        }
        now.copyFrom(kept);
        return true;
    }

    private int turnable(int what) {
        if (what == 0) {
            return now.world.far.offset;
        }
        return what == 1 ? now.world.near.fill : now.world.near.target;
    }

    private static boolean canTurn(int what, int number) {
        if (what == 0) {
            return number >= -99 && number <= 99;
        }
        return what == 1 ? number >= 0 && number <= 2 : number >= 1 && number <= 64;
    }

    private static int at(int[] row, int i) {
        return i >= 0 && i < row.length ? row[i] : 0;
    }

    private static void put(int[] row, int i, int value) {
        if (i >= 0 && i < row.length) {
            row[i] = value;
        }
    }

    private static int by(int a, int b) {
        return b == 0 ? 0 : a / b;
    }

    private static int mod(int a, int n) {
        return n <= 0 ? 0 : Math.floorMod(a, n);
    }

    private static int within(int value, int least, int most) {
        return Math.max(least, Math.min(most, value));
    }

    private static void copyRow(int[] from, int[] to) {
        System.arraycopy(from, 0, to, 0, Math.min(from.length, to.length));
    }

    /** A rule of the text, its numbers, values and operators put behind what they work on. */
    private static final class Rule {
        static final int PACKET = -1;
        static final int TIME = -2;
        static final int LAST = -3;
        static final int FLYING = -4;
        static final int NOT = -5;
        static final int OR = -6;
        static final int AND = -7;
        static final int LESS = -8;
        static final int EQUAL = -9;
        static final int PLUS = -10;
        static final int MINUS = -11;
        static final int TIMES = -12;
        static final int OVER = -13;

        private final int[] code = new int[MOST_BYTES];
        private int length;
        // Six EXPRs one in another leave at most five operands waiting each.
        private final int[] stack = new int[40];

        void clear() {
            length = 0;
        }

        boolean isTold() {
            return length > 0;
        }

        void add(int sign) {
            put(code, length, sign);
            length++;
        }

        int value(int packet, int time, int last, int flying) {
            int top = 0;
            for (int i = 0; i < length; i++) {
                int sign = at(code, i);
                if (sign < NOT) {
                    top--;
                    put(stack, top - 1, combined(sign, at(stack, top - 1), at(stack, top)));
                } else if (sign == NOT) {
                    put(stack, top - 1, at(stack, top - 1) == 0 ? 1 : 0);
                } else {
                    put(stack, top, sign >= 0 ? sign : pick(sign, packet, time, last, flying));
                    top++;
                }
            }
            return at(stack, 0);
        }

        private static int pick(int sign, int packet, int time, int last, int flying) {
            switch (sign) {
                case PACKET: return packet;
                case TIME: return time;
                case LAST: return last;
                default: return flying;
            }
        }

        private static int combined(int sign, int a, int b) {
            switch (sign) {
                case OR: return a != 0 || b != 0 ? 1 : 0;
                case AND: return a != 0 && b != 0 ? 1 : 0;
                case LESS: return a < b ? 1 : 0;
                case EQUAL: return a == b ? 1 : 0;
                case PLUS: return a + b;
                case MINUS: return a - b;
                case TIMES: return a * b;
                default: return b == 0 ? 0 : a / b;
            }
        }
    }

    /** What a text tells of a line. */
    private static final class Line {
        int size;
        int target;
        int p;
        int i;
        int every;
        int offset;
        int frame;
        int words;
        final int[] word = new int[16];
        final Rule delay = new Rule();
        final Rule lost = new Rule();

        Line() {
            clear();
        }

        void clear() {
            size = 4;
            target = 12;
            p = 4;
            i = 1;
            every = 8;
            offset = 0;
            frame = 1;
            words = 1;
            put(word, 0, 85);
            delay.clear();
            lost.clear();
        }

        int octet(int index) {
            return (at(word, mod(index, words)) + index) & 255;
        }
    }

    /** The tape, and what reads a text on it, TOKEN by TOKEN, into a line, up to the first fault. */
    private static final class Reader {
        private static final int STOPPED = -1;
        private static final int END = 0;
        private static final int BAD = 1;
        private static final int WORD = 2;
        private static final int NUMBER = 3;

        private static final int SIZE = 0;
        private static final int TARGET = 1;
        private static final int GAIN = 2;
        private static final int EVERY = 3;
        private static final int OFFSET = 4;
        private static final int FRAME = 5;
        private static final int OCTETS = 6;
        private static final int DELAY = 7;
        private static final int LOST = 8;

        private static final int OR_LEVEL = 0;
        private static final int AND_LEVEL = 1;
        private static final int NOT_LEVEL = 2;
        private static final int SUM_LEVEL = 3;
        private static final int PRODUCT_LEVEL = 4;
        private static final int PART_LEVEL = 5;

        private static final int MOST_DEEP = 6;
        private static final int MOST_NOTS = 6;
        private static final int MOST_WORDS = 16;
        private static final int MOST_NUMBER = 9999;

        private final int[] tape = new int[MOST_BYTES];
        int taped;
        private int length;
        private int next;
        private int start;
        // A sign's kind is its own byte.
        private int kind;
        private int fault;
        int place = NONE;
        private Line line = new Line();
        private Rule rule = line.delay;
        private int clausesTold;

        void addBytes(int number) {
            for (int shift = 24; shift >= 0; shift -= 8) {
                put(tape, taped, (number >>> shift) & 255);
                taped++;
            }
        }

        /** Hands out the line that was read last, and takes another one to read into. */
        Line exchange(Line other) {
            Line read = line;
            line = other;
            return read;
        }

        int read(int n) {
            length = n;
            taped = 0;
            next = 0;
            fault = 0;
            place = NONE;
            clausesTold = 0;
            line.clear();
            advance();
            for (int i = 0; i <= MOST_BYTES && kind != END && kind != STOPPED; i++) {
                readClause();
            }
            return fault;
        }

        private void fail(int what) {
            if (fault == 0) {
                fault = what;
                place = start;
            }
            kind = STOPPED;
        }

        private void advance() {
            if (fault != 0) {
                return;
            }
            for (; next < length && (at(tape, next) == ' ' || at(tape, next) == '\n'); next++) {
                continue;
            }
            start = next;
            if (next >= length) {
                kind = END;
                return;
            }
            kind = kindOf(at(tape, next));
            next++;
            if (kind == WORD || kind == NUMBER) {
                for (; next < length && kindOf(at(tape, next)) == kind; next++) {
                    continue;
                }
            }
        }

        private static int kindOf(int c) {
            if (c >= 'a' && c <= 'z') {
                return WORD;
            }
            if (c >= '0' && c <= '9') {
                return NUMBER;
            }
            switch (c) {
                case ';': case '(': case ')': case '+': case '-': case '*': case '/': case '<': case '=': return c;
                default: return BAD;
            }
        }

        private boolean isWord(String word) {
            if (kind != WORD || next - start != word.length()) {
                return false;
            }
            for (int i = 0; i < word.length(); i++) {
                if (at(tape, start + i) != word.charAt(i)) {
                    return false;
                }
            }
            return true;
        }

        private void passSign(int sign) {
            if (kind == sign) {
                advance();
            } else {
                fail(1);
            }
        }

        private int passNumber(int least, int most) {
            if (kind != NUMBER) {
                fail(1);
                return least;
            }
            int value = next - start > 4 ? MOST_NUMBER + 1 : numberHere();
            if (value < least || value > most) {
                fail(2);
                return least;
            }
            advance();
            return value;
        }

        private int numberHere() {
            int value = 0;
            for (int i = start; i < next; i++) {
                value = 10 * value + at(tape, i) - '0';
            }
            return value;
        }

        private int clauseHere() {
            if (isWord("size")) {
                return SIZE;
            } else if (isWord("target")) {
                return TARGET;
            } else if (isWord("gain")) {
                return GAIN;
            } else if (isWord("every")) {
                return EVERY;
            } else if (isWord("offset")) {
                return OFFSET;
            } else if (isWord("frame")) {
                return FRAME;
            } else if (isWord("word")) {
                return OCTETS;
            } else if (isWord("delay")) {
                return DELAY;
            }
            return isWord("lost") ? LOST : NONE;
        }

        private void readClause() {
            int clause = clauseHere();
            if (clause == NONE) {
                fail(1);
                return;
            }
            if (((clausesTold >> clause) & 1) != 0) {
                fail(5);
                return;
            }
            clausesTold |= 1 << clause;
            advance();
            if (clause == DELAY || clause == LOST) {
                rule = clause == DELAY ? line.delay : line.lost;
                readExpr(OR_LEVEL, 0);
            } else {
                readSetting(clause);
            }
            passSign(';');
        }

        private void readSetting(int clause) {
            switch (clause) {
                case SIZE: line.size = passNumber(1, 8); break;
                case TARGET: line.target = passNumber(1, 64); break;
                case GAIN: line.p = passNumber(0, 9); line.i = passNumber(0, 9); break;
                case EVERY: line.every = passNumber(1, 16); break;
                case OFFSET: line.offset = readOffset(); break;
                case FRAME: line.frame = passNumber(1, 8); break;
                default: readWord(); break;
            }
        }

        private int readOffset() {
            if (kind != '-') {
                return passNumber(0, 99);
            }
            advance();
            return -passNumber(0, 99);
        }

        private void readWord() {
            put(line.word, 0, passNumber(0, 255));
            line.words = 1;
            for (int i = 1; i < MOST_WORDS && kind == NUMBER; i++) {
                put(line.word, i, passNumber(0, 255));
                line.words = i + 1;
            }
            if (kind == NUMBER) {
                fail(2);
            }
        }

        private void readExpr(int level, int depth) {
            if (level >= PART_LEVEL) {
                readPart(depth);
                return;
            }
            int nots = level == NOT_LEVEL ? readNots() : 0;
            readExpr(level + 1, depth);
            int most = level == NOT_LEVEL ? 1 : MOST_BYTES;
            for (int i = 0; i < most && operatorHere(level) != 0; i++) {
                int operator = operatorHere(level);
                advance();
                readExpr(level + 1, depth);
                rule.add(operator);
            }
            for (int i = 0; i < nots; i++) {
                rule.add(Rule.NOT);
            }
        }

        private int readNots() {
            int nots = 0;
            for (; nots < MOST_NOTS && isWord("not"); nots++) {
                advance();
            }
            if (isWord("not")) {
                fail(2);
            }
            return nots;
        }

        private int operatorHere(int level) {
            switch (level) {
                case OR_LEVEL: return isWord("or") ? Rule.OR : 0;
                case AND_LEVEL: return isWord("and") ? Rule.AND : 0;
                case NOT_LEVEL: return kind == '<' ? Rule.LESS : kind == '=' ? Rule.EQUAL : 0;
                case SUM_LEVEL: return kind == '+' ? Rule.PLUS : kind == '-' ? Rule.MINUS : 0;
                case PRODUCT_LEVEL: return kind == '*' ? Rule.TIMES : kind == '/' ? Rule.OVER : 0;
                default: return 0;
            }
        }

        private void readPart(int depth) {
            if (kind == NUMBER) {
                rule.add(passNumber(0, MOST_NUMBER));
            } else if (kind == WORD) {
                readValue();
            } else if (kind == '(') {
                advance();
                if (depth + 1 < MOST_DEEP) {
                    readExpr(OR_LEVEL, depth + 1);
                } else {
                    fail(kind == NUMBER || kind == WORD || kind == '(' ? 2 : 1);
                }
                passSign(')');
            } else {
                fail(1);
            }
        }

        private void readValue() {
            if (isWord("packet")) {
                rule.add(Rule.PACKET);
            } else if (isWord("time")) {
                rule.add(Rule.TIME);
            } else if (isWord("last")) {
                rule.add(Rule.LAST);
            } else if (isWord("flying")) {
                rule.add(Rule.FLYING);
            } else {
                fail(3);
            }
            advance();
        }
    }

    /** The far end: its clock, what it sent, and the packets in flight as they were sent. */
    private static final class Far {
        private static final int MOST_FLYING = 40;
        private static final int MOST_DELAY = 60;
        private static final int USUAL_DELAY = 3;

        int offset;
        int phase;
        int made;
        int sent;
        int lost;
        int last;
        int losses;
        int stall;
        int flying;
        final int[] which = new int[MOST_FLYING];
        final int[] due = new int[MOST_FLYING];
        final int[] stamp = new int[MOST_FLYING];
        // A storm's fates of the next packets: a bit each, 1 is lost.
        int fated;
        int fates;

        void begin(Line line) {
            offset = line.offset;
            phase = 0;
            made = 0;
            sent = 0;
            lost = 0;
            last = 0;
            losses = 0;
            stall = 0;
            flying = 0;
            fated = 0;
            fates = 0;
        }

        void copyFrom(Far from) {
            offset = from.offset;
            phase = from.phase;
            made = from.made;
            sent = from.sent;
            lost = from.lost;
            last = from.last;
            losses = from.losses;
            stall = from.stall;
            flying = from.flying;
            fated = from.fated;
            fates = from.fates;
            copyRow(from.which, which);
            copyRow(from.due, due);
            copyRow(from.stamp, stamp);
        }

        void runClock() {
            phase += 1000 + offset;
        }

        boolean isOctetDue() {
            return phase >= 1000;
        }

        void makeOctet(Line line, int time) {
            phase -= 1000;
            made++;
            if (mod(made, line.size) == 0) {
                send(line, time);
            }
        }

        private void send(Line line, int time) {
            int delay = USUAL_DELAY;
            if (line.delay.isTold()) {
                delay = within(line.delay.value(sent, time, last, flying), 0, MOST_DELAY);
            }
            boolean byRule = line.lost.isTold() && line.lost.value(sent, time, last, flying) > 0;
            if (isLost(byRule)) {
                lost++;
            } else {
                put(which, flying, sent);
                put(due, flying, time + delay + stall);
                put(stamp, flying, mod(time, STAMPS));
                flying++;
            }
            last = delay;
            sent++;
        }

        private boolean isLost(boolean byRule) {
            if (fated > 0) {
                int fate = fates & 1;
                fated--;
                fates >>= 1;
                if (fate != 0) {
                    return true;
                }
            } else if (losses > 0) {
                losses--;
                return true;
            }
            return byRule || flying >= MOST_FLYING;
        }

        void moveFlying(int from, int to) {
            put(which, to, at(which, from));
            put(due, to, at(due, from));
            put(stamp, to, at(stamp, from));
        }
    }

    /** The near end's buffer: a slot for each number, told by the spot that its packet is for. */
    private static final class Buffer {
        private static final int EMPTY = -1;
        private static final int MOST_AHEAD = 15;

        int place;
        int late;
        int beyond;
        int age;
        int firstPacket;
        int firstPlace;
        private int firstSpot;
        private int topSpot;
        private int topStamp;
        private final int[] spots = new int[NUMBERS];
        private final int[] packets = new int[NUMBERS];

        void begin() {
            place = 0;
            late = 0;
            beyond = 0;
            age = 0;
            firstPacket = 0;
            firstPlace = 0;
            firstSpot = 0;
            topStamp = 0;
            empty();
        }

        void copyFrom(Buffer from) {
            place = from.place;
            late = from.late;
            beyond = from.beyond;
            age = from.age;
            firstPacket = from.firstPacket;
            firstPlace = from.firstPlace;
            firstSpot = from.firstSpot;
            topSpot = from.topSpot;
            topStamp = from.topStamp;
            copyRow(from.spots, spots);
            copyRow(from.packets, packets);
        }

        void empty() {
            topSpot = EMPTY;
            Arrays.fill(spots, EMPTY);
        }

        void startAt(int packet, int stamp, int size) {
            firstSpot = mod(packet, NUMBERS);
            firstPacket = packet;
            firstPlace = size * firstSpot;
            place = firstPlace;
            topSpot = firstSpot;
            topStamp = stamp;
            age = 0;
        }

        void take(int packet, int stamp, int size) {
            int here = by(place, size);
            int number = mod(packet, NUMBERS);
            int ahead = mod(number - here, NUMBERS);
            if (ahead >= NUMBERS / 2) {
                late++;
            } else if (ahead > MOST_AHEAD) {
                beyond++;
            } else {
                put(spots, number, here + ahead);
                put(packets, number, packet);
                if (here + ahead > topSpot) {
                    age += mod(stamp - topStamp, STAMPS);
                    topSpot = here + ahead;
                    topStamp = stamp;
                }
            }
        }

        int spread() {
            return topSpot - firstSpot;
        }

        // What lies at the top spot stays till it is played: a later packet of
        // its number is for the same spot, or for one above.
        int level(int size) {
            return Math.max(0, (topSpot + 1) * size - place);
        }

        int waiting(int number, int size) {
            int spot = at(spots, number);
            return spot != EMPTY && spot >= by(place, size) ? at(packets, number) : NONE;
        }

        /** Which of the far end's OCTETS lies at PLACE; NONE if no packet does. */
        int indexHere(int size) {
            int spot = by(place, size);
            int number = mod(spot, NUMBERS);
            return at(spots, number) == spot ? at(packets, number) * size + mod(place, size) : NONE;
        }

        /** Which of the far end's OCTETS should lie at PLACE. */
        int indexDue(int size) {
            return firstPacket * size + place - firstPlace;
        }
    }

    /** What was played, and the samples. */
    private static final class Log {
        private static final int FILLED = 256;

        int heard;
        int filled;
        int wrong;
        int rowFilled;
        private int sampled;
        // An octet that was filled is kept with FILLED added.
        private final int[] octets = new int[KEPT];
        private final int[] samples = new int[KEPT];

        void begin() {
            heard = 0;
            filled = 0;
            wrong = 0;
            rowFilled = 0;
            sampled = 0;
        }

        void copyFrom(Log from) {
            heard = from.heard;
            filled = from.filled;
            wrong = from.wrong;
            rowFilled = from.rowFilled;
            sampled = from.sampled;
            copyRow(from.octets, octets);
            copyRow(from.samples, samples);
        }

        int octetsKept() {
            return Math.min(heard, KEPT);
        }

        int samplesKept() {
            return Math.min(sampled, KEPT);
        }

        void hear(int octet, boolean isFilled) {
            put(octets, mod(heard, KEPT), isFilled ? octet + FILLED : octet);
            heard++;
            filled += isFilled ? 1 : 0;
            rowFilled = isFilled ? rowFilled + 1 : 0;
        }

        int latest(int i) {
            return i < octetsKept() ? at(octets, mod(heard - 1 - i, KEPT)) & 255 : IDLE_OCTET;
        }

        boolean latestIsFilled(int i) {
            return i < octetsKept() && at(octets, mod(heard - 1 - i, KEPT)) >= FILLED;
        }

        void addSample(int error) {
            put(samples, mod(sampled, KEPT), error);
            sampled++;
        }

        int sampleAt(int i) {
            return at(samples, mod(sampled - samplesKept() + i, KEPT));
        }

        /** How many rows of FILLED ones are that long, or how long the i-th of them is; -1 if none is. */
        int longRows(int least, int i) {
            int rows = 0;
            int length = 0;
            for (int k = octetsKept() - 1; k >= -1; k--) {
                if (k >= 0 && latestIsFilled(k)) {
                    length++;
                    continue;
                }
                if (length >= least) {
                    if (rows == i) {
                        return length;
                    }
                    rows++;
                }
                length = 0;
            }
            return i == NONE ? rows : -1;
        }

        int widest(int window) {
            int n = samplesKept();
            if (n < 2) {
                return NONE;
            }
            int many = Math.min(window, n);
            int widest = 0;
            for (int from = 0; from + many <= n; from++) {
                widest = Math.max(widest, widthOf(from, many));
            }
            return widest;
        }

        private int widthOf(int from, int many) {
            int most = sampleAt(from);
            int least = most;
            for (int i = from + 1; i < from + many; i++) {
                int error = sampleAt(i);
                most = Math.max(most, error);
                least = Math.min(least, error);
            }
            return most - least;
        }
    }

    /** The near end: its state, its clock and the loop that steers it. */
    private static final class Near {
        private static final int REPEAT = 0;
        private static final int BE_IDLE = 1;
        private static final int MOST_FILLED = 64;
        private static final int MOST_INTEGRAL = 3200;
        private static final int MOST_CONTROL = 200;

        int state;
        int target;
        int fill;
        int p;
        int i;
        int phase;
        int integral;
        int control;
        int error;
        int resets;
        final Buffer buffer = new Buffer();
        final Log log = new Log();

        void begin(Line line) {
            state = IDLE;
            target = line.target;
            fill = REPEAT;
            p = line.p;
            i = line.i;
            clearLoop();
            resets = 0;
            buffer.begin();
            log.begin();
        }

        void copyFrom(Near from) {
            state = from.state;
            target = from.target;
            fill = from.fill;
            p = from.p;
            i = from.i;
            phase = from.phase;
            integral = from.integral;
            control = from.control;
            error = from.error;
            resets = from.resets;
            buffer.copyFrom(from.buffer);
            log.copyFrom(from.log);
        }

        private void clearLoop() {
            phase = 0;
            integral = 0;
            control = 0;
            error = 0;
        }

        int level(int size) {
            return state == IDLE ? 0 : buffer.level(size);
        }

        int regained(int size) {
            if (state == IDLE || buffer.age == 0) {
                return NOTHING_REGAINED;
            }
            return by(1000 * size * buffer.spread(), buffer.age) - 1000;
        }

        void steer(Line line, int time) {
            int level = level(line.size);
            if (state == FILLING && level >= target) {
                state = PLAYING;
                clearLoop();
            }
            if (state == PLAYING && mod(time, line.every) == 0) {
                int e = level - target;
                integral = within(integral + i * e, -MOST_INTEGRAL, MOST_INTEGRAL);
                control = within((p * e + integral) / 16, -MOST_CONTROL, MOST_CONTROL);
                log.addSample(error);
            }
        }

        void runClock(int farOffset) {
            if (state == PLAYING) {
                phase += 1000 + control;
                error += farOffset - control;
            }
        }

        boolean isOctetDue() {
            return state == PLAYING && phase >= 1000;
        }

        void playOctet(Line line) {
            phase -= 1000;
            int index = buffer.indexHere(line.size);
            if (index == NONE) {
                int from = fill == REPEAT ? 0 : line.frame - 1;
                log.hear(fill == BE_IDLE ? IDLE_OCTET : log.latest(from), true);
            } else {
                int octet = line.octet(index);
                log.hear(octet, false);
                log.wrong += octet == line.octet(buffer.indexDue(line.size)) ? 0 : 1;
            }
            buffer.place++;
            if (log.rowFilled >= MOST_FILLED) {
                state = IDLE;
                resets++;
                buffer.empty();
            }
        }
    }

    /** All that steps and acts change. */
    private static final class World {
        static final int STEPS = 0;
        static final int LOSSES = 1;
        static final int STALL = 2;
        static final int OFFSET = 3;
        static final int FILL = 4;
        static final int TARGET = 5;

        // A step adds at most 1200 to a phase that is below 1000: two octets at most.
        private static final int MOST_OCTETS = 2;

        int time;
        final Far far = new Far();
        final Near near = new Near();

        void begin(Line line) {
            time = 0;
            far.begin(line);
            near.begin(line);
        }

        void copyFrom(World from) {
            time = from.time;
            far.copyFrom(from.far);
            near.copyFrom(from.near);
        }

        void step(Line line) {
            far.runClock();
            for (int k = 0; k < MOST_OCTETS && far.isOctetDue(); k++) {
                far.makeOctet(line, time);
            }
            receiveDue(line.size);
            near.steer(line, time);
            near.runClock(far.offset);
            for (int k = 0; k < MOST_OCTETS && near.isOctetDue(); k++) {
                near.playOctet(line);
            }
            time++;
        }

        private void receiveDue(int size) {
            int kept = 0;
            for (int i = 0; i < far.flying; i++) {
                if (at(far.due, i) > time) {
                    far.moveFlying(i, kept);
                    kept++;
                    continue;
                }
                if (near.state == IDLE) {
                    near.state = FILLING;
                    near.buffer.startAt(at(far.which, i), at(far.stamp, i), size);
                }
                near.buffer.take(at(far.which, i), at(far.stamp, i), size);
            }
            far.flying = kept;
        }

        void apply(Line line, int kind, int number) {
            switch (kind) {
                case STEPS:
                    for (int i = 0; i < number; i++) {
                        step(line);
                    }
                    break;
                case LOSSES: far.losses = number; break;
                case STALL: far.stall = number; break;
                case OFFSET: far.offset = number; break;
                case FILL: near.fill = number; break;
                default: near.target = number; break;
            }
        }
    }

    /** All that an image keeps. */
    private static final class Session {
        static final int MOST_NOTES = 8;
        private static final int MOST_ACTS = 40;

        final World world = new World();
        // The world ahead of all acts that are kept: to undo is to do the others again.
        private final World base = new World();
        int acts;
        private final int[] kinds = new int[MOST_ACTS];
        private final int[] numbers = new int[MOST_ACTS];
        int noted;
        final int[] noteSteps = new int[MOST_NOTES];
        final int[] noteLevels = new int[MOST_NOTES];
        final int[] status = new int[3];

        void begin(Line line) {
            world.begin(line);
            base.begin(line);
            acts = 0;
            noted = 0;
        }

        void copyFrom(Session from) {
            world.copyFrom(from.world);
            base.copyFrom(from.base);
            acts = from.acts;
            copyRow(from.kinds, kinds);
            copyRow(from.numbers, numbers);
            noted = from.noted;
            copyRow(from.noteSteps, noteSteps);
            copyRow(from.noteLevels, noteLevels);
            copyRow(from.status, status);
        }

        void refuse(int which) {
            put(status, which, at(status, which) + 1);
        }

        void act(Line line, int kind, int number) {
            if (acts >= MOST_ACTS) {
                base.apply(line, at(kinds, 0), at(numbers, 0));
                System.arraycopy(kinds, 1, kinds, 0, MOST_ACTS - 1);
                System.arraycopy(numbers, 1, numbers, 0, MOST_ACTS - 1);
                acts--;
            }
            put(kinds, acts, kind);
            put(numbers, acts, number);
            acts++;
            world.apply(line, kind, number);
        }

        int takeBack(Line line) {
            if (acts <= 0) {
                return NONE;
            }
            acts--;
            world.copyFrom(base);
            for (int k = 0; k < acts; k++) {
                world.apply(line, at(kinds, k), at(numbers, k));
            }
            return acts;
        }

        int keepNote(int steps, int level) {
            put(noteSteps, noted, steps);
            put(noteLevels, noted, level);
            noted++;
            return noted;
        }

        boolean isNoted(int steps, int level) {
            for (int k = 0; k < noted; k++) {
                if (at(noteSteps, k) == steps && at(noteLevels, k) != level) {
                    return false;
                }
            }
            return true;
        }
    }

    /** What would be, tried on a world of its own. */
    private static final class Forecast {
        private static final int MOST_TARGET = 64;
        private static final int MOST_OFFSET = 99;
        private static final int MOST_NOTE_STEPS = 60;
        private static final int LOOKS = 5;
        private static final int STEPS_A_LOOK = 10;
        private static final int LEVELS = 129;
        private static final int CALM = 40;
        private static final int STORM_STEPS = 80;

        private final World ahead = new World();
        int best;
        int bestCost;
        int others;
        int leastOther;
        private int draws;
        private final int[] looks = new int[LOOKS];
        private final int[] unlike = new int[LOOKS];
        private final int[] seen = new int[LOOKS * LEVELS];

        int behind(World now, Line line, int steps, int what) {
            ahead.copyFrom(now);
            ahead.apply(line, World.STEPS, steps);
            switch (what) {
                case 0: return ahead.near.level(line.size);
                case 1: return ahead.near.control;
                case 2: return ahead.near.state;
                case 3: return ahead.near.log.heard;
                case 4: return ahead.near.log.filled;
                default: return ahead.near.buffer.late;
            }
        }

        int firstPlaying(World now, Line line) {
            ahead.copyFrom(now);
            for (int i = 0; i <= FAR_AHEAD; i++) {
                if (ahead.near.state == PLAYING) {
                    return i;
                }
                ahead.step(line);
            }
            return NONE;
        }

        int firstOf(World now, Line line, int what) {
            ahead.copyFrom(now);
            int before = harm(what);
            for (int i = 1; i <= FAR_AHEAD; i++) {
                ahead.step(line);
                if (harm(what) != before) {
                    return i;
                }
            }
            return NONE;
        }

        private int harm(int what) {
            switch (what) {
                case 1: return ahead.near.log.filled;
                case 2: return ahead.near.buffer.late + ahead.near.buffer.beyond;
                default: return ahead.near.resets;
            }
        }

        private int offTarget(int size) {
            return Math.abs(ahead.near.level(size) - ahead.near.target);
        }

        int firstSettled(World now, Line line) {
            ahead.copyFrom(now);
            // Bit k: whether it was playing k steps ago.
            long playing = ahead.near.state == PLAYING ? 1 : 0;
            int calm = 0;
            for (int i = 1; i <= FAR_AHEAD + CALM; i++) {
                ahead.step(line);
                playing = (playing << 1) | (ahead.near.state == PLAYING ? 1 : 0);
                calm = offTarget(line.size) <= 2 ? calm + 1 : 0;
                if (calm >= CALM && ((playing >> CALM) & 1) != 0) {
                    return i - CALM;
                }
            }
            return NONE;
        }

        void findTarget(World now, Line line, int steps) {
            best = NONE;
            bestCost = NONE;
            for (int target = 1; target <= MOST_TARGET; target++) {
                ahead.copyFrom(now);
                ahead.near.target = target;
                ahead.apply(line, World.STEPS, steps);
                prefer(target, ahead.near.log.filled - now.near.log.filled);
            }
        }

        void findGains(World now, Line line, int steps) {
            best = NONE;
            bestCost = NONE;
            for (int p = 0; p <= 9; p++) {
                for (int i = 0; i <= 3; i++) {
                    ahead.copyFrom(now);
                    ahead.near.p = p;
                    ahead.near.i = i;
                    int off = mostOffTarget(line, steps);
                    if (off != NONE) {
                        prefer(10 * p + i, off);
                    }
                }
            }
        }

        private int mostOffTarget(Line line, int steps) {
            int most = NONE;
            for (int k = 0; k < steps; k++) {
                ahead.step(line);
                if (ahead.near.state == PLAYING) {
                    most = Math.max(most, offTarget(line.size));
                }
            }
            return most;
        }

        private void prefer(int which, int cost) {
            if (best == NONE || cost < bestCost) {
                best = which;
                bestCost = cost;
            }
        }

        boolean agrees(Session session, Line line, int offset) {
            ahead.copyFrom(session.world);
            ahead.far.offset = offset;
            for (int k = 0; k <= MOST_NOTE_STEPS; k++) {
                int level = ahead.near.level(line.size);
                if (!session.isNoted(k, level)) {
                    return false;
                }
                if (k > 0 && k % STEPS_A_LOOK == 0) {
                    put(looks, k / STEPS_A_LOOK - 1, level);
                }
                ahead.step(line);
            }
            return true;
        }

        void findOthers(Session session, Line line) {
            others = 0;
            leastOther = MOST_OFFSET + 1;
            Arrays.fill(unlike, 0);
            Arrays.fill(seen, 0);
            for (int offset = -MOST_OFFSET; offset <= MOST_OFFSET; offset++) {
                if (offset == session.world.far.offset || !agrees(session, line, offset)) {
                    continue;
                }
                others++;
                leastOther = Math.min(leastOther, offset);
                seeLooks();
            }
        }

        private void seeLooks() {
            for (int k = 0; k < LOOKS; k++) {
                int cell = k * LEVELS + at(looks, k);
                if (at(seen, cell) == 0) {
                    put(seen, cell, 1);
                    put(unlike, k, at(unlike, k) + 1);
                }
            }
        }

        void findLook() {
            best = NONE;
            bestCost = 0;
            for (int k = 0; k < LOOKS; k++) {
                if (at(unlike, k) > bestCost) {
                    best = STEPS_A_LOOK * (k + 1);
                    bestCost = at(unlike, k);
                }
            }
        }

        int unharmed(World now, Line line, int packets, int tenths) {
            int sum = 0;
            for (int fates = 0; fates < 1 << packets; fates++) {
                int weight = weightOf(fates, packets, tenths);
                if (weight > 0 && isUnharmed(now, line, packets, fates)) {
                    sum += weight;
                }
            }
            return sum;
        }

        private static int weightOf(int fates, int packets, int tenths) {
            int weight = 1;
            for (int k = 0; k < packets; k++) {
                weight *= ((fates >> k) & 1) != 0 ? tenths : 10 - tenths;
            }
            return weight;
        }

        private boolean isUnharmed(World now, Line line, int packets, int fates) {
            ahead.copyFrom(now);
            ahead.far.fated = packets;
            ahead.far.fates = fates;
            for (int k = 0; k < STORM_STEPS; k++) {
                ahead.step(line);
                if (ahead.near.log.filled != now.near.log.filled) {
                    return false;
                }
            }
            return true;
        }

        int byChance(World now, Line line, int seed, int n, int what) {
            ahead.copyFrom(now);
            draws = seed;
            int most = 0;
            for (int k = 0; k < n; k++) {
                happen(draw(5));
                ahead.apply(line, World.STEPS, 10);
                most = Math.max(most, ahead.near.level(line.size));
            }
            if (what == 0) {
                return ahead.near.log.filled - now.near.log.filled;
            }
            return what == 1 ? ahead.near.resets - now.near.resets : most;
        }

        private void happen(int what) {
            if (what == 0) {
                ahead.far.losses = draw(4);
            } else if (what == 1) {
                ahead.far.stall = draw(12);
            } else if (what == 2) {
                ahead.far.offset = draw(41) - 20;
            }
        }

        private int draw(int n) {
            draws = draws * 1103515245 + 12345;
            return mod((draws >> 16) & 32767, n);
        }
    }
}
