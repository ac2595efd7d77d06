import java.util.ArrayDeque;
import java.util.ArrayList;
import java.util.Deque;
import java.util.List;
import java.util.Map;
import java.util.NoSuchElementException;
import java.util.TreeMap;
import java.util.TreeSet;

/**
 * The document once more, in the slowest and plainest way: all that ever was is kept in lists, a state
 * is kept by copying it whole. It shares no code with CircuitCells, so that RandomRunsTest can set one
 * against the other.
 */
final class PlainModel {
    /** An expression, as a tree. */
    interface Expr {
        int of(int packet, int time, int last, int flying);
    }

    static final class Fault extends RuntimeException {
        private static final long serialVersionUID = 1;
        final int kind;
        final int place;

        Fault(int kind, int place) {
            this.kind = kind;
            this.place = place;
        }
    }

    record Token(String text, int place) {
        boolean isNumber() {
            return !text.isEmpty() && Character.isDigit(text.charAt(0));
        }

        boolean isWord() {
            return !text.isEmpty() && text.charAt(0) >= 'a' && text.charAt(0) <= 'z';
        }
    }

    static final class Told {
        int size = 4;
        int target = 12;
        int p = 4;
        int i = 1;
        int every = 8;
        int offset;
        int frame = 1;
        List<Integer> word = List.of(85);
        Expr delay = (packet, time, last, flying) -> 3;
        Expr lost = (packet, time, last, flying) -> 0;

        int octet(int index) {
            return Math.floorMod(word.get(index % word.size()) + index, 256);
        }
    }

    /** A reader by recursive descent over a list of tokens, the last one empty. */
    static final class Parser {
        final List<Token> tokens = new ArrayList<>();
        int at;
        final Told told = new Told();

        Parser(String text) {
            int i = 0;
            while (i < text.length()) {
                char c = text.charAt(i);
                int from = i++;
                if (c == ' ' || c == '\n') {
                    continue;
                }
                if (c >= 'a' && c <= 'z') {
                    while (i < text.length() && text.charAt(i) >= 'a' && text.charAt(i) <= 'z') {
                        i++;
                    }
                } else if (c >= '0' && c <= '9') {
                    while (i < text.length() && text.charAt(i) >= '0' && text.charAt(i) <= '9') {
                        i++;
                    }
                }
                tokens.add(new Token(text.substring(from, i), from));
            }
            tokens.add(new Token("", text.length()));
        }

        Token here() {
            return tokens.get(at);
        }

        boolean is(String text) {
            return here().text.equals(text);
        }

        Fault fault(int kind) {
            return new Fault(kind, here().place);
        }

        void need(String text) {
            if (!is(text)) {
                throw fault(1);
            }
            at++;
        }

        int number(int least, int most) {
            if (!here().isNumber()) {
                throw fault(1);
            }
            if (here().text.length() > 4) {
                throw fault(2);
            }
            int value = Integer.parseInt(here().text);
            if (value < least || value > most) {
                throw fault(2);
            }
            at++;
            return value;
        }

        Told read() {
            TreeSet<String> clauses = new TreeSet<>();
            while (!is("")) {
                String word = here().text;
                if (!List.of("size", "target", "gain", "every", "offset", "frame", "word", "delay", "lost").contains(word)) {
                    throw fault(1);
                }
                if (!clauses.add(word)) {
                    throw fault(5);
                }
                at++;
                clause(word);
                need(";");
            }
            return told;
        }

        void clause(String word) {
            switch (word) {
                case "size" -> told.size = number(1, 8);
                case "target" -> told.target = number(1, 64);
                case "gain" -> {
                    told.p = number(0, 9);
                    told.i = number(0, 9);
                }
                case "every" -> told.every = number(1, 16);
                case "offset" -> {
                    int sign = is("-") ? -1 : 1;
                    at += is("-") ? 1 : 0;
                    told.offset = sign * number(0, 99);
                }
                case "frame" -> told.frame = number(1, 8);
                case "word" -> {
                    told.word = new ArrayList<>();
                    told.word.add(number(0, 255));
                    while (here().isNumber()) {
                        if (told.word.size() == 16) {
                            throw fault(2);
                        }
                        told.word.add(number(0, 255));
                    }
                }
                case "delay" -> told.delay = expr(0);
                default -> told.lost = expr(0);
            }
        }

        Expr expr(int within) {
            if (within == 6 && (here().isNumber() || here().isWord() || is("("))) {
                throw fault(2);
            }
            Expr left = and(within);
            while (is("or")) {
                at++;
                Expr a = left;
                Expr b = and(within);
                left = (p, t, l, f) -> (a.of(p, t, l, f) != 0) | (b.of(p, t, l, f) != 0) ? 1 : 0;
            }
            return left;
        }

        Expr and(int within) {
            Expr left = not(within, 0);
            while (is("and")) {
                at++;
                Expr a = left;
                Expr b = not(within, 0);
                left = (p, t, l, f) -> (a.of(p, t, l, f) != 0) & (b.of(p, t, l, f) != 0) ? 1 : 0;
            }
            return left;
        }

        Expr not(int within, int nots) {
            if (is("not")) {
                if (nots == 6) {
                    throw fault(2);
                }
                at++;
                Expr a = not(within, nots + 1);
                return (p, t, l, f) -> a.of(p, t, l, f) == 0 ? 1 : 0;
            }
            Expr a = sum(within);
            if (is("<")) {
                at++;
                Expr b = sum(within);
                return (p, t, l, f) -> a.of(p, t, l, f) < b.of(p, t, l, f) ? 1 : 0;
            }
            if (is("=")) {
                at++;
                Expr b = sum(within);
                return (p, t, l, f) -> a.of(p, t, l, f) == b.of(p, t, l, f) ? 1 : 0;
            }
            return a;
        }

        Expr sum(int within) {
            Expr left = product(within);
            while (is("+") || is("-")) {
                boolean plus = is("+");
                at++;
                Expr a = left;
                Expr b = product(within);
                left = (p, t, l, f) -> plus ? a.of(p, t, l, f) + b.of(p, t, l, f) : a.of(p, t, l, f) - b.of(p, t, l, f);
            }
            return left;
        }

        Expr product(int within) {
            Expr left = part(within);
            while (is("*") || is("/")) {
                boolean times = is("*");
                at++;
                Expr a = left;
                Expr b = part(within);
                left = (p, t, l, f) -> {
                    int x = a.of(p, t, l, f);
                    int y = b.of(p, t, l, f);
                    return times ? x * y : y == 0 ? 0 : x / y;
                };
            }
            return left;
        }

        Expr part(int within) {
            if (here().isNumber()) {
                int value = number(0, 9999);
                return (p, t, l, f) -> value;
            }
            if (is("(")) {
                at++;
                Expr a = expr(within + 1);
                need(")");
                return a;
            }
            if (!here().isWord()) {
                throw fault(1);
            }
            String word = here().text;
            Expr value = switch (word) {
                case "packet" -> (p, t, l, f) -> p;
                case "time" -> (p, t, l, f) -> t;
                case "last" -> (p, t, l, f) -> l;
                case "flying" -> (p, t, l, f) -> f;
                default -> throw fault(3);
            };
            at++;
            return value;
        }
    }

    record Packet(int which, int due, int stamp) { }

    record Octet(int value, boolean isFilled) { }

    /** All that steps and acts change. */
    static final class State {
        int time;
        int farPhase;
        int made;
        int sent;
        int lost;
        int last;
        int losses;
        int stall;
        int offset;
        List<Packet> flight = new ArrayList<>();
        Deque<Boolean> storm = new ArrayDeque<>();

        int state;
        int place;
        Packet first;
        int firstPlace;
        int age;
        List<int[]> putSinceFirst = new ArrayList<>(); // spot, stamp
        Map<Integer, int[]> slots = new TreeMap<>(); // number: spot, packet
        int late;
        int beyond;
        int nearPhase;
        int integral;
        int control;
        int error;
        int fill;
        int target;
        int p;
        int i;
        int resets;
        int wrong;
        List<Octet> played = new ArrayList<>();
        List<Integer> samples = new ArrayList<>();

        State(Told told) {
            target = told.target;
            offset = told.offset;
            p = told.p;
            i = told.i;
        }

        State(State s) {
            time = s.time;
            farPhase = s.farPhase;
            made = s.made;
            sent = s.sent;
            lost = s.lost;
            last = s.last;
            losses = s.losses;
            stall = s.stall;
            offset = s.offset;
            flight = new ArrayList<>(s.flight);
            storm = new ArrayDeque<>(s.storm);
            state = s.state;
            place = s.place;
            first = s.first;
            firstPlace = s.firstPlace;
            age = s.age;
            putSinceFirst = new ArrayList<>(s.putSinceFirst);
            slots = new TreeMap<>(s.slots);
            late = s.late;
            beyond = s.beyond;
            nearPhase = s.nearPhase;
            integral = s.integral;
            control = s.control;
            error = s.error;
            fill = s.fill;
            target = s.target;
            p = s.p;
            i = s.i;
            resets = s.resets;
            wrong = s.wrong;
            played = new ArrayList<>(s.played);
            samples = new ArrayList<>(s.samples);
        }

        int filled() {
            int n = 0;
            for (Octet o : played) {
                n += o.isFilled ? 1 : 0;
            }
            return n;
        }

        int level(Told told) {
            if (state == 0) {
                return 0;
            }
            int highest = -1;
            for (int[] slot : slots.values()) {
                if (slot[0] >= place / told.size) {
                    highest = Math.max(highest, slot[0]);
                }
            }
            return highest < 0 ? 0 : (highest + 1) * told.size - place;
        }

        int highestPut() {
            int highest = -1;
            for (int k = 0; k < putSinceFirst.size(); k++) {
                if (highest < 0 || putSinceFirst.get(k)[0] > putSinceFirst.get(highest)[0]) {
                    highest = k;
                }
            }
            return highest;
        }

        int regained(Told told) {
            if (state == 0 || age == 0) {
                return 10000;
            }
            int spread = putSinceFirst.get(highestPut())[0] - putSinceFirst.get(0)[0];
            return 1000 * told.size * spread / age - 1000;
        }

        void step(Told told) {
            farPhase += 1000 + offset;
            while (farPhase >= 1000) {
                farPhase -= 1000;
                made++;
                if (made % told.size == 0) {
                    send(told);
                }
            }
            for (Packet packet : new ArrayList<>(flight)) {
                if (packet.due <= time) {
                    flight.remove(packet);
                    come(told, packet);
                }
            }
            int level = level(told);
            if (state == 1 && level >= target) {
                state = 2;
                nearPhase = integral = control = error = 0;
            }
            if (state == 2 && time % told.every == 0) {
                int e = level - target;
                integral = Math.max(-3200, Math.min(3200, integral + i * e));
                control = Math.max(-200, Math.min(200, (p * e + integral) / 16));
                samples.add(error);
            }
            if (state == 2) {
                play(told);
            }
            time++;
        }

        void send(Told told) {
            int delay = Math.max(0, Math.min(60, told.delay.of(sent, time, last, flight.size())));
            int byRule = told.lost.of(sent, time, last, flight.size());
            boolean gone = false;
            if (!storm.isEmpty()) {
                gone = storm.removeFirst();
            } else if (losses > 0) {
                losses--;
                gone = true;
            }
            if (gone || byRule > 0 || flight.size() == 40) {
                lost++;
            } else {
                flight.add(new Packet(sent, time + delay + stall, time % 256));
            }
            last = delay;
            sent++;
        }

        void come(Told told, Packet packet) {
            int number = packet.which % 64;
            boolean isFirst = state == 0;
            if (isFirst) {
                place = told.size * number;
                state = 1;
                first = packet;
                firstPlace = place;
                age = 0;
                putSinceFirst.clear();
            }
            int ahead = Math.floorMod(number - place / told.size % 64, 64);
            if (ahead >= 32) {
                ahead -= 64;
            }
            if (ahead < 0) {
                late++;
            } else if (ahead >= 16) {
                beyond++;
            } else {
                int spot = place / told.size + ahead;
                slots.put(number, new int[] {spot, packet.which});
                int top = highestPut();
                if (top >= 0 && spot > putSinceFirst.get(top)[0]) {
                    age += Math.floorMod(packet.stamp - putSinceFirst.get(top)[1], 256);
                }
                putSinceFirst.add(new int[] {spot, packet.stamp});
            }
        }

        void play(Told told) {
            nearPhase += 1000 + control;
            error += offset - control;
            while (nearPhase >= 1000) {
                nearPhase -= 1000;
                int[] slot = null;
                for (int[] s : slots.values()) {
                    if (s[0] == place / told.size) {
                        slot = s;
                    }
                }
                if (slot != null) {
                    int octet = told.octet(slot[1] * told.size + place % told.size);
                    played.add(new Octet(octet, false));
                    if (octet != told.octet(first.which * told.size + place - firstPlace)) {
                        wrong++;
                    }
                } else {
                    int back = fill == 0 ? 1 : told.frame;
                    boolean none = fill == 1 || played.size() < back;
                    played.add(new Octet(none ? 126 : played.get(played.size() - back).value, true));
                }
                place++;
                if (filledRow() >= 64) {
                    state = 0;
                    resets++;
                    slots.clear();
                    return;
                }
            }
        }

        int filledRow() {
            int n = 0;
            while (n < played.size() && played.get(played.size() - 1 - n).isFilled) {
                n++;
            }
            return n;
        }
    }

    /** All that an image keeps. */
    static final class Kept {
        State state;
        List<State> undo = new ArrayList<>();
        List<int[]> notes = new ArrayList<>();
        int[] status = new int[3];

        Kept copy() {
            Kept k = new Kept();
            k.state = new State(state);
            k.undo = new ArrayList<>(undo);
            k.notes = new ArrayList<>(notes);
            k.status = status.clone();
            return k;
        }
    }

    Told told = new Told();
    Kept now = new Kept();
    Kept image;
    final StringBuilder tape = new StringBuilder();
    int fault = -1;

    PlainModel() {
        now.state = new State(told);
    }

    int feed(int a, int b, int c, int d, int e) {
        if (tape.length() > 680) {
            return -1;
        }
        for (int number : new int[] {a, b, c, d, e}) {
            tape.append((char) (number >> 24 & 255)).append((char) (number >> 16 & 255));
            tape.append((char) (number >> 8 & 255)).append((char) (number & 255));
        }
        return tape.length();
    }

    int line(int n) {
        if (n < 0 || n > tape.length()) {
            throw new IllegalArgumentException();
        }
        String text = tape.substring(0, n);
        tape.setLength(0);
        try {
            told = new Parser(text).read();
        } catch (Fault f) {
            fault = f.place;
            now.status[0]++;
            return f.kind;
        }
        fault = -1;
        int[] status = now.status;
        now = new Kept();
        now.status = status;
        now.state = new State(told);
        image = null;
        return 0;
    }

    int fault() {
        return fault;
    }

    int count(int what) {
        State s = now.state;
        int[] all = {s.time, s.made, s.sent, s.lost, s.flight.size(), s.late, s.beyond, s.played.size(), s.filled(),
            s.level(told), s.state, s.control, s.integral, s.regained(told), s.resets, s.wrong, samples().size(),
            now.undo.size(), now.notes.size(), tape.length(), now.status[0], now.status[1], now.status[2]};
        return pick(all, what);
    }

    int set(int what) {
        State s = now.state;
        int[] all = {told.size, s.target, told.p, told.i, told.every, s.offset, told.frame, told.word.size(), s.fill,
            s.losses, s.stall, s.farPhase, s.nearPhase, s.place % (64 * told.size), s.error};
        return pick(all, what);
    }

    static int pick(int[] all, int what) {
        if (what < 0 || what >= all.length) {
            throw new NoSuchElementException();
        }
        return all[what];
    }

    static <T> T get(List<T> list, int i) {
        if (i < 0 || i >= list.size()) {
            throw new NoSuchElementException();
        }
        return list.get(i);
    }

    static void need(boolean ok) {
        if (!ok) {
            throw new IllegalArgumentException();
        }
    }

    int flying(int i, int what) {
        Packet p = get(now.state.flight, i);
        return pick(new int[] {p.which, p.due, p.stamp}, what);
    }

    int slot(int number) {
        if (number < 0 || number > 63) {
            throw new NoSuchElementException();
        }
        int[] slot = now.state.slots.get(number);
        return slot == null || slot[0] < now.state.place / told.size ? -1 : slot[1];
    }

    /** The latest 128, the earliest first. */
    List<Octet> octets() {
        List<Octet> all = now.state.played;
        return all.subList(Math.max(0, all.size() - 128), all.size());
    }

    List<Integer> samples() {
        List<Integer> all = now.state.samples;
        return all.subList(Math.max(0, all.size() - 128), all.size());
    }

    int played(int i, int what) {
        if (i < 0) {
            throw new NoSuchElementException();
        }
        Octet o = get(octets(), octets().size() - 1 - i);
        return pick(new int[] {o.value, o.isFilled ? 1 : 0}, what);
    }

    int spans(int least, int i) {
        need(least >= 1 && least <= 128);
        StringBuilder marks = new StringBuilder();
        for (Octet o : octets()) {
            marks.append(o.isFilled ? 'x' : ' ');
        }
        List<Integer> lengths = new ArrayList<>();
        for (String row : marks.toString().split(" ")) {
            if (row.length() >= least) {
                lengths.add(row.length());
            }
        }
        return i == -1 ? lengths.size() : get(lengths, i);
    }

    int sample(int i) {
        return get(samples(), i);
    }

    int wander(int w) {
        need(w >= 2 && w <= 128);
        List<Integer> all = samples();
        if (all.size() < 2) {
            return -1;
        }
        int most = 0;
        for (int from = 0; from < all.size(); from++) {
            for (int to = from; to < Math.min(all.size(), from + w); to++) {
                most = Math.max(most, Math.abs(all.get(from) - all.get(to)));
            }
        }
        return most;
    }

    void keepUndo() {
        now.undo.add(new State(now.state));
        if (now.undo.size() > 40) {
            now.undo.remove(0);
        }
    }

    int refuse(int which, int answer) {
        now.status[which]++;
        return answer;
    }

    int steps(int many) {
        if (many < 1 || many > 50 || now.state.time > 20000 - many) {
            return refuse(1, -1);
        }
        keepUndo();
        for (int k = 0; k < many; k++) {
            now.state.step(told);
        }
        return now.state.time;
    }

    int lose(int packets) {
        int old = now.state.losses;
        if (packets < 0 || packets > 20 || packets == old) {
            return refuse(1, -1);
        }
        keepUndo();
        now.state.losses = packets;
        return old;
    }

    int stall(int steps) {
        int old = now.state.stall;
        if (steps < 0 || steps > 30 || steps == old) {
            return refuse(1, -1);
        }
        keepUndo();
        now.state.stall = steps;
        return old;
    }

    int turn(int what, int number) {
        int old = pick(new int[] {now.state.offset, now.state.fill, now.state.target}, what);
        int least = pick(new int[] {-99, 0, 1}, what);
        int most = pick(new int[] {99, 2, 64}, what);
        if (number < least || number > most || number == old) {
            return refuse(1, 10000);
        }
        keepUndo();
        if (what == 0) {
            now.state.offset = number;
        } else if (what == 1) {
            now.state.fill = number;
        } else {
            now.state.target = number;
        }
        return old;
    }

    int undo() {
        if (now.undo.isEmpty()) {
            return -1;
        }
        // An image may keep the same one: it must not change.
        now.state = new State(now.undo.remove(now.undo.size() - 1));
        return now.undo.size();
    }

    /** The states behind 0, 1, 2 .. so many steps. */
    List<State> course(State from, int steps) {
        List<State> all = new ArrayList<>();
        all.add(new State(from));
        for (int k = 0; k < steps; k++) {
            State next = new State(all.get(k));
            next.step(told);
            all.add(next);
        }
        return all;
    }

    State later(State from, int steps) {
        State s = new State(from);
        for (int k = 0; k < steps; k++) {
            s.step(told);
        }
        return s;
    }

    int then(int steps, int what) {
        pick(new int[6], what);
        need(steps >= 0 && steps <= 400);
        State s = later(now.state, steps);
        return pick(new int[] {s.level(told), s.control, s.state, s.played.size(), s.filled(), s.late}, what);
    }

    int when(int what) {
        pick(new int[4], what);
        State was = now.state;
        for (int k = 0; k <= 400; k++) {
            State s = k == 0 ? was : later(was, 1);
            boolean yes = switch (what) {
                case 0 -> s.state == 2;
                case 1 -> s.filled() > was.filled();
                case 2 -> s.late > was.late || s.beyond > was.beyond;
                default -> s.resets > was.resets;
            };
            if (yes) {
                return k;
            }
            was = s;
        }
        return -1;
    }

    int settles() {
        List<State> all = course(now.state, 440);
        for (int k = 0; k <= 400; k++) {
            boolean calm = all.get(k).state == 2;
            for (int j = k + 1; j <= k + 40; j++) {
                int level = all.get(j).level(told);
                calm &= level >= all.get(j).target - 2 && level <= all.get(j).target + 2;
            }
            if (calm) {
                return k;
            }
        }
        return -1;
    }

    int toAim(int steps, int what) {
        pick(new int[2], what);
        need(steps >= 1 && steps <= 400);
        int best = 0;
        int least = Integer.MAX_VALUE;
        for (int target = 64; target >= 1; target--) {
            State s = new State(now.state);
            s.target = target;
            int filled = later(s, steps).filled() - s.filled();
            if (filled <= least) {
                least = filled;
                best = target;
            }
        }
        return what == 0 ? best : least;
    }

    int toGain(int steps, int what) {
        pick(new int[2], what);
        need(steps >= 1 && steps <= 400);
        int best = -1;
        int least = -1;
        for (int gains = 93; gains >= 0; gains--) {
            if (gains % 10 > 3) {
                continue;
            }
            State s = new State(now.state);
            s.p = gains / 10;
            s.i = gains % 10;
            int most = -1;
            for (int k = 0; k < steps; k++) {
                s.step(told);
                if (s.state == 2) {
                    most = Math.max(most, Math.abs(s.level(told) - s.target));
                }
            }
            if (most >= 0 && (least < 0 || most <= least)) {
                least = most;
                best = gains;
            }
        }
        return what == 0 ? best : least;
    }

    int note(int steps, int level) {
        if (now.notes.size() == 8 || steps < 0 || steps > 60 || level < 0 || level > 999) {
            return refuse(2, -1);
        }
        now.notes.add(new int[] {steps, level});
        return now.notes.size();
    }

    boolean fits(int offset) {
        State s = new State(now.state);
        s.offset = offset;
        for (int[] note : now.notes) {
            if (later(s, note[0]).level(told) != note[1]) {
                return false;
            }
        }
        return true;
    }

    List<Integer> others() {
        List<Integer> all = new ArrayList<>();
        for (int offset = -99; offset <= 99; offset++) {
            if (offset != now.state.offset && fits(offset)) {
                all.add(offset);
            }
        }
        return all;
    }

    int other(int what) {
        pick(new int[3], what);
        if (what == 2) {
            return fits(now.state.offset) ? 1 : 0;
        }
        List<Integer> all = others();
        return what == 0 ? all.size() : all.isEmpty() ? 100 : all.get(0);
    }

    int look(int what) {
        pick(new int[2], what);
        int most = 0;
        int best = -1;
        List<Integer> all = others();
        for (int steps = 10; steps <= 50; steps += 10) {
            TreeSet<Integer> levels = new TreeSet<>();
            for (int offset : all) {
                State s = new State(now.state);
                s.offset = offset;
                levels.add(later(s, steps).level(told));
            }
            if (levels.size() > most) {
                most = levels.size();
                best = steps;
            }
        }
        return what == 0 ? best : most;
    }

    void forget() {
        now.notes.clear();
    }

    int storms(int packets, int tenths) {
        need(packets >= 1 && packets <= 5 && tenths >= 0 && tenths <= 10);
        return storm(new ArrayList<>(), packets, tenths);
    }

    private int storm(List<Boolean> fates, int packets, int tenths) {
        if (fates.size() < packets) {
            int sum = 0;
            for (boolean lost : new boolean[] {true, false}) {
                List<Boolean> more = new ArrayList<>(fates);
                more.add(lost);
                sum += (lost ? tenths : 10 - tenths) * storm(more, packets, tenths);
            }
            return sum;
        }
        State s = new State(now.state);
        s.storm = new ArrayDeque<>(fates);
        return later(s, 80).filled() == s.filled() ? 1 : 0;
    }

    int years(int seed, int n, int what) {
        pick(new int[3], what);
        need(n >= 0 && n <= 60);
        State s = new State(now.state);
        int[] seeds = {seed};
        int top = 0;
        for (int k = 0; k < n; k++) {
            switch (draw(seeds, 5)) {
                case 0 -> s.losses = draw(seeds, 4);
                case 1 -> s.stall = draw(seeds, 12);
                case 2 -> s.offset = draw(seeds, 41) - 20;
                default -> { }
            }
            for (int j = 0; j < 10; j++) {
                s.step(told);
            }
            top = Math.max(top, s.level(told));
        }
        return pick(new int[] {s.filled() - now.state.filled(), s.resets - now.state.resets, top}, what);
    }

    private static int draw(int[] seed, int n) {
        seed[0] = seed[0] * 1103515245 + 12345;
        return (seed[0] >>> 16) % 32768 % n;
    }

    void image() {
        image = now.copy();
    }

    boolean restore() {
        if (image == null) {
            return false;
        }
        now = image.copy();
        return true;
    }
}
