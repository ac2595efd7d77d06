/** Promises 18 to 30: what would be, what is noted, the image. */
public final class QuestionsTest {
    private static final Check CHECK = new Check();
    private static final String PLAIN = Edges.PLAIN;
    /** Packet 10 comes 5 steps late: LATE, if TARGET is below 6. */
    private static final String JITTER = "size 1; gain 0 0; delay (packet = 10) * 5;";
    /** It fills its buffer: LEVEL is 8 times the packets made. */
    private static final String FILLS = "size 8; target 64; delay 0;";
    private static final String ROUGH = "size 3; target 9; offset 11; frame 5; word 3 1 4; gain 6 2; every 3;"
        + "delay 9 * (packet - packet/5*5 = 1); lost packet - packet/19*19 = 8;";
    private static final int[] FAR = {-1, Integer.MIN_VALUE, Integer.MAX_VALUE};

    private QuestionsTest() {
    }

    public static void main(String[] args) {
        then();
        when();
        dropped();
        settles();
        settlesFor40();
        toAim();
        toGain();
        note();
        other();
        look();
        forget();
        storms();
        stormsAndLosses();
        years();
        yearsByHand();
        image();
        imageKeepsAll();
        imageKeepsActs();
        imageKeepsNotes();
        nothingChanges();
        CHECK.end();
    }

    private static void then() {
        CHECK.begin("18 then");
        CircuitCells x = Texts.told(ROUGH);
        Edges.go(x, 30);
        int[] counts = {9, 11, 10, 7, 8, 5};
        CircuitCells y = Texts.told(ROUGH);
        Edges.go(y, 30);
        for (int steps : new int[] {0, 1, 9, 50, 140, 150, 400}) {
            Edges.go(y, 30 + steps - y.count(0));
            for (int what = 0; what < 6; what++) {
                CHECK.is("then(" + steps + ", " + what + ")", x.then(steps, what), y.count(counts[what]));
            }
        }
        CHECK.is("LATE is not nothing", y.count(5) > 0, true);
        CHECK.is("TIME stays", x.count(0), 30);
        for (int what : new int[] {-1, 6, Integer.MIN_VALUE, Integer.MAX_VALUE}) {
            CHECK.noElement("then(0, " + what + ")", () -> x.then(0, what));
            CHECK.noElement("then(-1, " + what + "), ahead", () -> x.then(-1, what));
        }
        for (int steps : new int[] {-1, 401, Integer.MIN_VALUE, Integer.MAX_VALUE}) {
            CHECK.illegal("then(" + steps + ", 5)", () -> x.then(steps, 5));
        }
    }

    private static void when() {
        CHECK.begin("19 when");
        CircuitCells x = new CircuitCells();
        CHECK.is("it PLAYS", x.when(0), 15);
        CHECK.is("none FILLED", x.when(1), -1);
        CHECK.is("none dropped", x.when(2), -1);
        CHECK.is("no RESET", x.when(3), -1);
        x.steps(14);
        CHECK.is("it PLAYS", x.when(0), 1);
        x.steps(1);
        CHECK.is("it PLAYS now", x.when(0), 0);
        x = Texts.told(JITTER + "target 5;");
        CHECK.is("FILLED on the step of TIME 14", x.when(1), 15);
        CHECK.is("LATE on the step of TIME 15", x.when(2), 16);
        x.steps(15);
        CHECK.is("FILLED once only", x.when(1), -1);
        CHECK.is("LATE on the next", x.when(2), 1);
        x = Texts.told("size 1; target 64; delay 0;");
        CHECK.is("BEYOND on the step of TIME 16", x.when(2), 17);
        CHECK.is("never PLAYS", x.when(0), -1);
        x = Texts.told("size 1; target 1; delay 0; lost packet;");
        CHECK.is("a RESET", x.when(3), 65);
        x.steps(50);
        CHECK.is("a RESET", x.when(3), 15);
        CHECK.is("FILLED", x.when(1), 1);
        x = Texts.told(PLAIN + "lost packet < 399;");
        CHECK.is("on the 400th step", x.when(0), 400);
        CHECK.is("none FILLED", x.when(1), -1);
        CHECK.is("behind 401 steps", Texts.told(PLAIN + "lost packet < 400;").when(0), -1);
        CHECK.is("FILLED on the 400th", Texts.told(PLAIN + "lost packet = 399;").when(1), 400);
        CHECK.is("FILLED on the 401st", Texts.told(PLAIN + "lost packet = 400;").when(1), -1);
        CircuitCells y = x;
        for (int what : new int[] {-1, 4, Integer.MIN_VALUE, Integer.MAX_VALUE}) {
            CHECK.noElement("when(" + what + ")", () -> y.when(what));
        }
    }

    private static void settles() {
        CHECK.begin("20 settles");
        CircuitCells x = Texts.told("size 1; target 5; delay 2; gain 0 0;");
        CHECK.is("it PLAYS, LEVEL 4", x.settles(), 7);
        x.steps(7);
        CHECK.is("now", x.settles(), 0);
        x.turn(2, 6);
        CHECK.is("LEVEL 2 below", x.settles(), 0);
        x.turn(2, 7);
        CHECK.is("LEVEL 3 below", x.settles(), -1);
        x.turn(2, 2);
        CHECK.is("LEVEL 2 above", x.settles(), 0);
        x.turn(2, 1);
        CHECK.is("LEVEL 3 above", x.settles(), -1);
        CHECK.is("behind 400 steps", Texts.told(PLAIN + "lost packet < 399;").settles(), 400);
        CHECK.is("behind 401 steps", Texts.told(PLAIN + "lost packet < 400;").settles(), -1);
        x = Texts.told("size 4; target 4; delay 0; gain 0 0;");
        CHECK.is("LEVEL 3 down to 0: 4 below", x.settles(), -1);
        x = Texts.told("size 4; target 2; delay 0; gain 0 0;");
        CHECK.is("LEVEL 3 down to 0: within 2", x.settles(), 4);
        x = Texts.told(PLAIN + "lost packet = 45;");
        CHECK.is("a FILLED one counts for nothing", x.settles(), 1);
        // Packet 40 on are lost for long: LEVEL stays 0, TARGET 1, and a RESET comes.
        x = Texts.told(PLAIN + "lost 0 < packet;");
        CHECK.is("PLAYING then or not", x.settles(), 1);
        x.steps(50);
        CHECK.is("the last steps that it PLAYS", x.settles(), 0);
        x.steps(15);
        CHECK.is("IDLE now, and all along", x.settles(), -1);
        // LEVEL 3 goes down to 1 and 0 behind the steps of TIME 31 and 32, or of 61 and 62.
        x = Texts.told("size 1; target 4; delay 0; gain 0 0; lost 29 < packet and packet < 33;");
        CHECK.is("LEVEL 0 behind 33 steps, for the last time", x.settles(), 33);
        x = Texts.told("size 1; target 4; delay 0; gain 0 0; lost 59 < packet and packet < 63;");
        CHECK.is("LEVEL 3 for 40 steps and more", x.settles(), 4);
    }

    private static void settlesFor40() {
        CHECK.begin("20 settles, 40 steps");
        // Three lost from packet n on: LEVEL is 3, then 2, 1, 0 behind the steps n + 1, n + 2, n + 3, then 3.
        String text = "size 1; target 4; delay 0; gain 0 0; lost ";
        CHECK.is("the 41st step is too low", Texts.told(text + "42 < packet and packet < 46;").settles(), 4);
        CHECK.is("the 40th step is too low", Texts.told(text + "41 < packet and packet < 45;").settles(), 45);
        CHECK.is("the step of which it is asked is too low", Edges.after(text + "9 < packet and packet < 13;", 13).settles(), 0);
    }

    private static void dropped() {
        CHECK.begin("19 when, dropped both ways on a step");
        String text = "size 1; target 64; delay (packet = 20) * 20; lost not (packet = 0 or packet = 20 or 39 < packet);";
        CHECK.is("packets 20 and 40 at TIME 40", Texts.told(text).when(2), 41);
    }

    private static void toAim() {
        CHECK.begin("21 toAim");
        CircuitCells x = Texts.told(JITTER + "target 1;");
        int[][] due = {{10, 1, 0}, {11, 2, 0}, {12, 3, 0}, {15, 6, 0}, {40, 6, 0}, {400, 6, 0}, {1, 1, 0}};
        for (int[] row : due) {
            CHECK.is("toAim(" + row[0] + ", 0)", x.toAim(row[0], 0), row[1]);
            CHECK.is("toAim(" + row[0] + ", 1)", x.toAim(row[0], 1), row[2]);
        }
        CHECK.is("TARGET stays", x.set(1), 1);
        x.steps(3);
        CHECK.is("it PLAYS: TARGET comes too late", x.toAim(40, 0), 1);
        CHECK.is("one FILLED", x.toAim(40, 1), 1);
        x.steps(20);
        CHECK.is("FILLED ahead of now counts for nothing", x.toAim(40, 1), 0);
        CircuitCells y = x;
        for (int what : new int[] {-1, 2, Integer.MIN_VALUE, Integer.MAX_VALUE}) {
            CHECK.noElement("toAim(1, " + what + ")", () -> y.toAim(1, what));
            CHECK.noElement("toAim(0, " + what + "), ahead", () -> y.toAim(0, what));
        }
        for (int steps : new int[] {0, 401, -1, Integer.MIN_VALUE, Integer.MAX_VALUE}) {
            CHECK.illegal("toAim(" + steps + ", 0)", () -> y.toAim(steps, 0));
        }
    }

    /** The most that LEVEL is off TARGET, found by a line of those gains that goes the same way. */
    private static int offBy(String text, int target, int before, int steps, int gains) {
        CircuitCells x = Texts.told(text + "gain " + gains / 10 + " " + gains % 10 + ";");
        x.steps(before);
        x.turn(2, target);
        int most = -1;
        for (int i = 0; i < steps; i++) {
            x.steps(1);
            if (x.count(10) == 2) {
                most = Math.max(most, Math.abs(x.count(9) - target));
            }
        }
        return most;
    }

    private static void toGain() {
        CHECK.begin("22 toGain");
        CircuitCells x = Texts.told("size 1; target 5; delay 2;");
        CHECK.is("it doesn't play in time", x.toGain(6, 0), -1);
        CHECK.is("none", x.toGain(6, 1), -1);
        CHECK.is("all alike: the least", x.toGain(7, 0), 0);
        CHECK.is("LEVEL 4", x.toGain(7, 1), 1);
        CHECK.is("LEVEL 4", x.toGain(400, 1), 1);
        CHECK.is("P stays", x.set(2), 4);
        // Behind 6 steps CONTROL is 0 still, whatever the gains: no EVERY has come that could tell them apart.
        String text = "size 4; target 8; delay 1; every 7; offset 30;";
        for (int steps : new int[] {1, 20, 60, 150}) {
            CircuitCells y = Texts.told(text + "gain 9 9;");
            y.steps(6);
            y.turn(2, 14);
            int best = -1;
            int least = -1;
            for (int gains = 0; gains < 100; gains++) {
                int off = gains % 10 > 3 ? -1 : offBy(text, 14, 6, steps, gains);
                if (off >= 0 && (least < 0 || off < least)) {
                    least = off;
                    best = gains;
                }
            }
            CHECK.is("toGain(" + steps + ", 0)", y.toGain(steps, 0), best);
            CHECK.is("toGain(" + steps + ", 1)", y.toGain(steps, 1), least);
        }
        for (int what : new int[] {-1, 2, Integer.MIN_VALUE, Integer.MAX_VALUE}) {
            CHECK.noElement("toGain(1, " + what + ")", () -> x.toGain(1, what));
            CHECK.noElement("toGain(0, " + what + "), ahead", () -> x.toGain(0, what));
        }
        for (int steps : new int[] {0, 401, -1, Integer.MIN_VALUE, Integer.MAX_VALUE}) {
            CHECK.illegal("toGain(" + steps + ", 0)", () -> x.toGain(steps, 0));
        }
    }

    private static void note() {
        CHECK.begin("23 note");
        CircuitCells x = new CircuitCells();
        int refused = 0;
        for (int steps : new int[] {-1, 61, Integer.MIN_VALUE, Integer.MAX_VALUE}) {
            CHECK.is("note(" + steps + ", 0)", x.note(steps, 0), -1);
            refused++;
            CHECK.is("STATUS 2", x.count(22), refused);
        }
        for (int level : new int[] {-1, 1000, Integer.MIN_VALUE, Integer.MAX_VALUE}) {
            CHECK.is("note(0, " + level + ")", x.note(0, level), -1);
            refused++;
            CHECK.is("STATUS 2", x.count(22), refused);
        }
        CHECK.is("NOTED", x.count(18), 0);
        int[][] good = {{0, 0}, {60, 999}, {0, 0}, {60, 0}, {0, 999}, {30, 30}, {1, 2}, {3, 4}};
        for (int i = 0; i < 8; i++) {
            CHECK.is("note", x.note(good[i][0], good[i][1]), i + 1);
            CHECK.is("NOTED", x.count(18), i + 1);
        }
        CHECK.is("a ninth", x.note(0, 0), -1);
        CHECK.is("STATUS 2", x.count(22), refused + 1);
        CHECK.is("NOTED", x.count(18), 8);
        CHECK.is("is no ACT", x.count(17), 0);
        CHECK.is("STATUS 1", x.count(21), 0);
    }

    private static void others(CircuitCells x, int many, int least, int without) {
        CHECK.is("other(0)", x.other(0), many);
        CHECK.is("other(1)", x.other(1), least);
        CHECK.is("other(2)", x.other(2), without);
    }

    private static void other() {
        CHECK.begin("24 other");
        CircuitCells x = Texts.told("size 1; target 64; delay 0;");
        others(x, 198, -99, 1);
        x.turn(0, -99);
        others(x, 198, -98, 1);
        x.undo();
        x.note(10, 10);
        others(x, 99, 1, 1);
        x.turn(0, 50);
        others(x, 99, 0, 1);
        x.turn(0, -50);
        others(x, 100, 0, 0);
        x.forget();
        x.turn(0, 0);
        x.note(10, 9);
        others(x, 99, -99, 0);
        x.note(10, 10);
        others(x, 0, 100, 0);
        x.forget();
        x.note(0, 0);
        others(x, 198, -99, 1);
        x.note(0, 1);
        others(x, 0, 100, 0);
        x = Texts.told(FILLS);
        x.note(60, 48);
        // 60 steps make 54 or 55 octets, by -99 to -67.
        others(x, 33, -99, 0);
        x.note(50, 40);
        others(x, 33, -99, 0);
        x.note(30, 32);
        // 30 steps make 32 octets by 67 at the least.
        others(x, 0, 100, 0);
        x.forget();
        x.steps(10);
        x.note(50, 56);
        // 46 to 53 octets more: by -80 to 79.
        others(x, 159, -80, 1);
        CircuitCells y = x;
        for (int what : new int[] {-1, 3, Integer.MIN_VALUE, Integer.MAX_VALUE}) {
            CHECK.noElement("other(" + what + ")", () -> y.other(what));
        }
    }

    private static void look() {
        CHECK.begin("25 look");
        CircuitCells x = Texts.told(FILLS);
        CHECK.is("24 or 32 behind 30, the first of like ones", x.look(0), 30);
        CHECK.is("how many", x.look(1), 2);
        x.note(30, 32);
        CHECK.is("other(0)", x.other(0), 33);
        CHECK.is("all alike: the first", x.look(0), 10);
        CHECK.is("how many", x.look(1), 1);
        x.note(30, 24);
        CHECK.is("none", x.look(0), -1);
        CHECK.is("none", x.look(1), 0);
        x.forget();
        x.note(40, 32);
        // 40 steps make less than 40 octets by 0 and below; 30 make 27 to 29 then, 50 make 45 to 49.
        CHECK.is("40 or 48 behind 50", x.look(0), 50);
        CHECK.is("how many", x.look(1), 2);
        x = Texts.told("size 1; target 64; delay 0;");
        CHECK.is("9 or 10 behind 10", x.look(0), 10);
        CHECK.is("how many", x.look(1), 2);
        x = Texts.told("size 1; target 8; delay 0; gain 0 0;");
        CHECK.is("3 to 11 behind 50, 4 to 10 behind 40", x.look(0), 50);
        CHECK.is("how many", x.look(1), 9);
        CircuitCells y = x;
        for (int what : new int[] {-1, 2, Integer.MIN_VALUE, Integer.MAX_VALUE}) {
            CHECK.noElement("look(" + what + ")", () -> y.look(what));
        }
    }

    private static void forget() {
        CHECK.begin("26 forget");
        CircuitCells x = new CircuitCells();
        x.forget();
        CHECK.is("NOTED", x.count(18), 0);
        for (int i = 0; i < 8; i++) {
            x.note(5, 77);
        }
        CHECK.is("so without", x.other(2), 0);
        x.note(99, 1);
        x.forget();
        CHECK.is("NOTED", x.count(18), 0);
        CHECK.is("STATUS 2 stays", x.count(22), 1);
        CHECK.is("so without", x.other(2), 1);
        CHECK.is("note", x.note(0, 0), 1);
    }

    private static void storms() {
        CHECK.begin("27 storms");
        CircuitCells x = Texts.told(PLAIN);
        CHECK.is("the first may be lost: another is FIRST", x.storms(1, 3), 10);
        CHECK.is("or the first rows", x.storms(2, 10), 100);
        // Of two: fine, but for the first there and the second lost.
        CHECK.is("storms(2, 3)", x.storms(2, 3), 100 - 7 * 3);
        x.steps(1);
        int[] due = {7, 49, 343, 2401, 16807};
        for (int n = 1; n <= 5; n++) {
            CHECK.is("storms(" + n + ", 3)", x.storms(n, 3), due[n - 1]);
            CHECK.is("storms(" + n + ", 10)", x.storms(n, 10), 0);
        }
        CHECK.is("storms(5, 0)", x.storms(5, 0), 100000);
        CHECK.is("storms(5, 5)", x.storms(5, 5), 3125);
        CHECK.is("lost in 80 steps", Edges.after(PLAIN + "lost packet = 80;", 1).storms(2, 0), 0);
        CHECK.is("lost on the 81st", Edges.after(PLAIN + "lost packet = 81;", 1).storms(2, 0), 100);
        CHECK.is("by LOST as ever", Edges.after(PLAIN + "lost packet = 3;", 1).storms(5, 2), 0);
        x = Edges.after("size 1; target 64; delay 0; gain 0 0; lost 0;", 5);
        CHECK.is("never PLAYS", x.storms(3, 4), 1000);
        x = Edges.after("size 1; target 1; gain 0 0; delay 60 * (0 < packet);", 40);
        CHECK.is("what 40 in flight lose", x.storms(1, 0), 0);
        for (int packets : new int[] {0, 6, -1, Integer.MIN_VALUE, Integer.MAX_VALUE}) {
            CHECK.illegal("storms(" + packets + ", 1)", () -> Texts.told(PLAIN).storms(packets, 1));
        }
        for (int tenths : new int[] {-1, 11, Integer.MIN_VALUE, Integer.MAX_VALUE}) {
            CHECK.illegal("storms(1, " + tenths + ")", () -> Texts.told(PLAIN).storms(1, tenths));
        }
    }

    private static void stormsAndLosses() {
        CHECK.begin("27 storms, LOSSES");
        // Packets 1 and 2 are of the storm, 3 and on of the LOSSES that stay.
        CircuitCells x = Edges.after(PLAIN, 1);
        x.lose(1);
        CHECK.is("LOSSES stay for packet 3", x.storms(2, 0), 0);
        CHECK.is("LOSSES", x.set(9), 1);
        // With nothing PLAYED, packets lost at first do no harm: packet 0 of the storm, then one of LOSSES.
        x = Texts.told(PLAIN);
        x.lose(2);
        CHECK.is("lost at first, and two more", x.storms(1, 10), 10);
        CHECK.is("there at first, two lost behind it", x.storms(1, 0), 0);
        CHECK.is("storms(1, 4)", x.storms(1, 4), 4);
        CHECK.is("storms(2, 4): both lost", x.storms(2, 4), 16);
    }

    private static void years() {
        CHECK.begin("28 years");
        CircuitCells x = Edges.after(ROUGH, 60);
        for (int what = 0; what < 3; what++) {
            CHECK.is("years(5, 0, " + what + ")", x.years(5, 0, what), 0);
        }
        for (int what : new int[] {-1, 3, Integer.MIN_VALUE, Integer.MAX_VALUE}) {
            CHECK.noElement("years(5, 1, " + what + ")", () -> x.years(5, 1, what));
            CHECK.noElement("years(5, 61, " + what + "), ahead", () -> x.years(5, 61, what));
        }
        for (int n : new int[] {-1, 61, Integer.MIN_VALUE, Integer.MAX_VALUE}) {
            CHECK.illegal("years(5, " + n + ", 0)", () -> x.years(5, n, 0));
        }
        CircuitCells y = Edges.after("size 1; target 64; delay 0;", 12);
        CHECK.is("the most LEVEL, not the last", y.years(3, 2, 2), 16);
    }

    private static int seed;

    private static int draw(int n) {
        seed = seed * 1103515245 + 12345;
        return (seed >>> 16 & 32767) % n;
    }

    /** YEARS, done by hand on an object like that. */
    private static void yearsByHand() {
        CHECK.begin("28 years, by hand");
        String[] texts = {ROUGH, PLAIN, "", "size 1; target 3; delay 0; lost 50 < packet and packet < 200; every 1;"};
        boolean[] seen = new boolean[3];
        for (int from : new int[] {0, 1, -7, 123456789, Integer.MIN_VALUE, Integer.MAX_VALUE}) {
            for (String text : texts) {
                int n = 60 - Math.floorMod(from, 7);
                CircuitCells x = Edges.after(text, 30);
                CircuitCells y = Edges.after(text, 30);
                int filled = y.count(8);
                int resets = y.count(14);
                int top = 0;
                seed = from;
                for (int i = 0; i < n; i++) {
                    switch (draw(5)) {
                        case 0: y.lose(draw(4)); break;
                        case 1: y.stall(draw(12)); break;
                        case 2: y.turn(0, draw(41) - 20); break;
                        default: break;
                    }
                    y.steps(10);
                    top = Math.max(top, y.count(9));
                }
                int[] due = {y.count(8) - filled, y.count(14) - resets, top};
                for (int what = 0; what < 3; what++) {
                    CHECK.is("years(" + from + ", " + n + ", " + what + ") of " + text, x.years(from, n, what), due[what]);
                    seen[what] |= due[what] > 0;
                }
            }
        }
        CHECK.is("all of these were seen", seen[0] && seen[1] && seen[2], true);
    }

    private static void image() {
        CHECK.begin("29, 30 image, restore");
        CircuitCells x = new CircuitCells();
        CHECK.is("none", x.restore(), false);
        x.steps(20);
        x.image();
        x.steps(30);
        CHECK.is("restore()", x.restore(), true);
        CHECK.is("TIME", x.count(0), 20);
        x.steps(1);
        CHECK.is("again", x.restore(), true);
        CHECK.is("TIME", x.count(0), 20);
        x.steps(7);
        x.image();
        x.steps(3);
        CHECK.is("restore()", x.restore(), true);
        CHECK.is("the later one", x.count(0), 27);
        Texts.tell(x, "size;");
        CHECK.is("a FAULT lets it be", x.restore(), true);
        CHECK.is("STATUS 0, as it was", x.count(20), 0);
        Texts.tell(x, "");
        CHECK.is("a LINE takes it away", x.restore(), false);
        CHECK.is("nothing changes", x.count(0), 0);
    }

    /** An object with some of all that an image keeps. */
    private static CircuitCells full() {
        CircuitCells x = Texts.told(ROUGH);
        x.lose(2);
        Edges.go(x, 77);
        x.stall(9);
        x.turn(0, -40);
        x.turn(1, 2);
        x.turn(2, 30);
        x.note(7, 8);
        x.steps(0);
        x.note(70, 8);
        Texts.tell(x, "foo");
        return x;
    }

    /** The same, kept as an image, then changed in all ways. */
    private static CircuitCells changed() {
        CircuitCells x = full();
        x.image();
        x.undo();
        x.undo();
        x.undo();
        Edges.go(x, 300);
        x.lose(5);
        x.stall(1);
        x.turn(0, 3);
        x.forget();
        x.note(1, 1);
        x.note(2, 2);
        x.steps(0);
        x.note(70, 8);
        Texts.tell(x, "bar");
        Texts.feed(x, "size 8;");
        return x;
    }

    private static void imageKeepsAll() {
        CHECK.begin("30 what an image keeps");
        CircuitCells x = changed();
        CHECK.is("restore()", x.restore(), true);
        alike("restored", state(x), state(full()));
        CHECK.is("the tape is no part of it", x.count(19), 20);
        CHECK.is("the FAULT is none", x.fault(), 0);
        CHECK.is("what is NOTED", x.then(7, 0) == 8 ? 1 : 0, x.other(2));
        x = changed();
        x.restore();
        for (int i = 6; i >= 0; i--) {
            CHECK.is("undo()", x.undo(), i);
        }
        CHECK.is("TIME", x.count(0), 0);
        x.steps(11);
        CHECK.is("restore() again", x.restore(), true);
        alike("restored again", state(x), state(full()));
        CircuitCells y = Texts.told(PLAIN);
        for (int i = 0; i < 45; i++) {
            y.steps(2);
        }
        y.image();
        Edges.go(y, 500);
        y.restore();
        for (int i = 0; i < 40; i++) {
            y.undo();
        }
        CHECK.is("the ACTS of then", y.count(0), 10);
        CHECK.is("no more of them", y.undo(), -1);
    }

    /** An object that has done so many acts. */
    private static CircuitCells acted(int acts) {
        CircuitCells x = Texts.told(ROUGH);
        for (int i = 0; i < acts; i++) {
            switch (i % 5) {
                case 0: x.turn(0, i - 20); break;
                case 1: x.turn(1, i / 5 % 2 + 1); break;
                case 2: x.turn(2, 1 + i); break;
                case 3: x.stall(i / 2); break;
                default: x.steps(5 + i % 20); break;
            }
        }
        return x;
    }

    private static void imageKeepsActs() {
        CHECK.begin("30 the acts that an image keeps");
        for (int i = 49; i >= 10; i--) {
            CircuitCells x = acted(50);
            x.image();
            for (int k = 0; k < 45; k++) {
                x.steps(1 + k);
                x.lose(1 + k % 2 * 10);
            }
            CHECK.is("restore()", x.restore(), true);
            for (int left = 39; left >= i - 10; left--) {
                CHECK.is("undo()", x.undo(), left);
            }
            int[] got = state(x);
            int[] due = state(acted(i));
            due[17] = i - 10;
            alike("ahead of act " + i, got, due);
        }
        CircuitCells y = acted(50);
        y.image();
        for (int round = 0; round < 2; round++) {
            CHECK.is("restore()", y.restore(), true);
            for (int left = 39; left >= 0; left--) {
                CHECK.is("undo()", y.undo(), left);
            }
            CHECK.is("undo()", y.undo(), -1);
        }
    }

    private static void imageKeepsNotes() {
        CHECK.begin("30 the notes that an image keeps");
        CircuitCells x = Texts.told(FILLS);
        x.note(30, 32);
        x.image();
        CHECK.is("other(0)", x.other(0), 33);
        x.forget();
        x.note(50, 32);
        CHECK.is("other(0)", x.other(0), 0);
        x.restore();
        CHECK.is("other(0)", x.other(0), 33);
        x.forget();
        x.note(30, 24);
        x.restore();
        CHECK.is("other(0)", x.other(0), 33);
        x.forget();
        x.note(50, 40);
        x.note(50, 40);
        x.image();
        x.forget();
        x.note(30, 32);
        x.restore();
        CHECK.is("NOTED", x.count(18), 2);
        // 50 steps make 45 to 47 octets by -99 to -41.
        CHECK.is("other(0)", x.other(0), 59);
    }

    /** What an object shows, less the tape, in some 200 calls. */
    private static int[] state(CircuitCells x) {
        int[] all = new int[23 + 15 + 64 + 8 + 30 + 30];
        int n = 0;
        for (int i = 0; i < 23; i++) {
            all[n++] = i == 19 ? 0 : x.count(i);
        }
        for (int i = 0; i < 15; i++) {
            all[n++] = x.set(i);
        }
        for (int i = 0; i < 64; i++) {
            all[n++] = x.slot(i);
        }
        for (int i = 0; i < 8 && i < all[4]; i++) {
            all[n++] = x.flying(i, 0) * 1000 + x.flying(i, 1) + x.flying(i, 2) * 1000000;
        }
        for (int i = 0; i < 30 && i < all[16]; i++) {
            all[n++] = x.sample(i);
        }
        for (int i = 0; i < 30 && i < all[7]; i++) {
            all[n++] = x.played(i, 0) * 2 + x.played(i, 1);
        }
        return all;
    }

    private static void alike(String what, int[] got, int[] due) {
        for (int i = 0; i < due.length; i++) {
            CHECK.is(what + ", number " + i, got[i], due[i]);
        }
    }

    private static CircuitCells asked() {
        CircuitCells x = Texts.told(ROUGH);
        Edges.go(x, 47);
        x.lose(3);
        x.stall(2);
        x.note(9, 9);
        return x;
    }

    private static void nothingChanges() {
        CHECK.begin("18 to 28 nothing changes");
        CircuitCells x = asked();
        for (int i = 0; i < 6; i++) {
            x.then(100, i);
        }
        for (int i = 0; i < 4; i++) {
            x.when(i);
        }
        x.settles();
        x.toAim(50, 0);
        x.toGain(50, 0);
        for (int i = 0; i < 3; i++) {
            x.other(i);
        }
        x.look(0);
        x.storms(5, 5);
        x.years(77, 60, 0);
        for (int i : FAR) {
            CHECK.noElement("when", () -> x.when(i));
            CHECK.illegal("years", () -> x.years(1, i, 0));
        }
        alike("all that was asked", state(x), state(asked()));
        CHECK.is("undo()", x.undo(), 2);
    }
}
