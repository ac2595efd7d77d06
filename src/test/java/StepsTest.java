/** Promises 5 to 17: what steps do, what is asked of it, the acts and their undoing. */
public final class StepsTest {
    private static final Check CHECK = new Check();
    private static final String PLAIN = Edges.PLAIN;

    private StepsTest() {
    }

    public static void main(String[] args) {
        countAndSetArguments();
        course();
        loop();
        loopLimits();
        farClock();
        flying();
        fullFlight();
        numbersWrap();
        wrongByValue();
        wrongByNumber();
        lateAndSpread();
        regained();
        idleAgain();
        restart();
        fills();
        played();
        spans();
        samples();
        wander();
        steps();
        timeLimit();
        lose();
        stall();
        turn();
        undo();
        undoAll();
        CHECK.end();
    }

    private static void countAndSetArguments() {
        CHECK.begin("5, 6 what");
        CircuitCells x = new CircuitCells();
        for (int what : new int[] {-1, 23, Integer.MIN_VALUE, Integer.MAX_VALUE}) {
            CHECK.noElement("count", () -> x.count(what));
        }
        for (int what : new int[] {-1, 15, Integer.MIN_VALUE, Integer.MAX_VALUE}) {
            CHECK.noElement("set", () -> x.set(what));
        }
    }

    /** Without a text: a packet each 4 steps, 3 on the way; it plays from 12 octets on. */
    private static void course() {
        CHECK.begin("5 the course of a new object");
        for (int n = 1; n <= 40; n++) {
            CircuitCells x = Edges.after("", n);
            int come = n < 7 ? 0 : (n - 3) / 4;
            int played = Math.max(0, n - 14);
            int[] due = {n, n, n / 4, 0, n / 4 - come, 0, 0, played, 0, 4 * come - played, n < 7 ? 0 : n < 15 ? 1 : 2, 0};
            for (int i = 0; i < due.length; i++) {
                CHECK.is("behind " + n + " count(" + i + ")", x.count(i), due[i]);
            }
            CHECK.is("behind " + n + " REGAINED", x.count(13), n < 11 ? 10000 : 0);
            CHECK.is("behind " + n + " PLACE", x.set(13), played);
            CHECK.is("behind " + n + " flying", x.count(4) == 0 ? -1 : x.flying(0, 0), x.count(4) == 0 ? -1 : come);
            for (int number = 0; number < 12; number++) {
                boolean lies = number < come && number >= played / 4;
                CHECK.is("behind " + n + " slot(" + number + ")", x.slot(number), lies ? number : -1);
            }
            if (played > 0) {
                CHECK.is("behind " + n + " played", x.played(0, 0), 85 + played - 1);
            }
        }
        CircuitCells x = Edges.after("", 40);
        CHECK.is("SAMPLES", x.count(16), 3);
        CHECK.is("INTEGRAL", x.count(12), -6);
        for (int what : new int[] {-1, 64, Integer.MIN_VALUE, Integer.MAX_VALUE}) {
            CHECK.noElement("slot", () -> x.slot(what));
        }
    }

    /** LEVEL is 10 in (c) at TIME 16, 24 and so on: 2 less than TARGET. */
    private static void loop() {
        CHECK.begin("5 the loop");
        CircuitCells x = Edges.after("", 40);
        CHECK.is("CONTROL: -8 and -6 by 16", x.count(11), 0);
        x.steps(1);
        CHECK.is("CONTROL: -8 and -8 by 16", x.count(11), -1);
        CHECK.is("INTEGRAL", x.count(12), -8);
        CHECK.is("ERROR", x.set(14), 1);
        CHECK.is("near PHASE", x.set(12), 999);
        CHECK.is("none PLAYED", x.count(7), 26);
        x.steps(7);
        CHECK.is("ERROR", x.set(14), 8);
        CHECK.is("near PHASE", x.set(12), 992);
        x.steps(1);
        CHECK.is("CONTROL: -4 and -9 by 16", x.count(11), 0);
        CHECK.is("INTEGRAL", x.count(12), -9);
        x.steps(8);
        int[] due = {0, 0, 0, 0, 8, 8};
        CHECK.is("SAMPLES", x.count(16), due.length);
        for (int i = 0; i < due.length; i++) {
            CHECK.is("sample(" + i + ")", x.sample(i), due[i]);
        }
        x = Edges.after("offset 20; every 1;", 16);
        CHECK.is("ERROR is more by OFFSET too", x.set(14), 2 * 20 - x.count(11));
    }

    private static void loopLimits() {
        CHECK.begin("5 the loop's limits");
        CircuitCells x = Edges.after("size 8; target 64; gain 9 9; delay 0; every 1;", 64);
        CHECK.is("PLAYS", x.count(10), 2);
        x.turn(2, 1);
        x.steps(5);
        CHECK.is("CONTROL at most 200", x.count(11), 200);
        CHECK.is("INTEGRAL is below its limit", x.count(12) > 2000 && x.count(12) < 3200, true);
        x.steps(1);
        CHECK.is("INTEGRAL at most 3200", x.count(12), 3200);
        x.steps(1);
        CHECK.is("INTEGRAL at most 3200", x.count(12), 3200);
        x = Edges.after("size 1; target 4; gain 9 9; delay 0; every 1;", 4);
        x.turn(2, 64);
        x.steps(6);
        CHECK.is("CONTROL at least -200", x.count(11), -200);
        x.steps(1);
        CHECK.is("INTEGRAL at least -3200", x.count(12), -3200);
        x = Edges.after("size 1; target 4; gain 5 0; delay 0; every 3;", 4);
        x.turn(2, 64);
        x.steps(2);
        CHECK.is("no CONTROL till TIME is a multiple of EVERY", x.count(11), 0);
        x.steps(1);
        CHECK.is("5 times -60, by 16, cut down to 0", x.count(11), 5 * -60 / 16);
    }

    private static void farClock() {
        CHECK.begin("6 the far clock");
        CircuitCells x = Edges.after("offset 99;", 11);
        CHECK.is("made", x.count(1), 12);
        CHECK.is("far PHASE", x.set(11), 89);
        CHECK.is("sent", x.count(2), 3);
        x = Edges.after("offset -99;", 10);
        CHECK.is("made", x.count(1), 9);
        CHECK.is("far PHASE", x.set(11), 10);
        x = Edges.after("size 1; offset 99; target 64;", 11);
        CHECK.is("two sent in a step", x.count(2), 12);
        CHECK.is("the first of two, in flight", x.flying(x.count(4) - 2, 1), 13);
        CHECK.is("the other", x.flying(x.count(4) - 1, 1), 13);
    }

    private static void flying() {
        CHECK.begin("7 flying");
        CircuitCells x = Edges.after("size 2; delay 12 - 3*packet;", 6);
        int[][] due = {{0, 13, 1}, {1, 12, 3}, {2, 11, 5}};
        for (int i = 0; i < 3; i++) {
            for (int what = 0; what < 3; what++) {
                CHECK.is("flying(" + i + ", " + what + ")", x.flying(i, what), due[i][what]);
            }
        }
        for (int i : new int[] {-1, 3, 40, Integer.MAX_VALUE, Integer.MIN_VALUE}) {
            CHECK.noElement("flying(" + i + ", 0)", () -> x.flying(i, 0));
        }
        for (int what : new int[] {-1, 3, Integer.MAX_VALUE, Integer.MIN_VALUE}) {
            CHECK.noElement("flying(0, " + what + ")", () -> x.flying(0, what));
        }
        x.steps(6);
        CHECK.is("packets 0 and 1 are left", x.flying(0, 0) * 100 + x.flying(1, 0) * 10 + x.count(4), 12);
        CircuitCells y = Edges.after("size 8; delay 0;", 255);
        Edges.go(y, 9);
        y.stall(30);
        y.steps(8);
        CHECK.is("STAMP, MOD 256", y.flying(0, 2), 271 - 256);
        CHECK.is("DUE", y.flying(0, 1), 271 + 30);
    }

    private static void fullFlight() {
        CHECK.begin("5 at most 40 in flight");
        CircuitCells x = Edges.after("size 1; delay 60;", 40);
        CHECK.is("in flight", x.count(4), 40);
        CHECK.is("lost", x.count(3), 0);
        x.steps(1);
        CHECK.is("lost", x.count(3), 1);
        x.steps(20);
        CHECK.is("the first has come behind what was sent at TIME 60", x.count(4), 39);
        CHECK.is("lost", x.count(3), 21);
        x.steps(1);
        CHECK.is("lost", x.count(3), 21);
        CHECK.is("sent", x.count(2), 62);
        CHECK.is("which", x.flying(38, 0), 61);
    }

    /** Sixteen spots of one octet never are 64: it is FILLING all the while, PLACE stays. */
    private static void numbersWrap() {
        CHECK.begin("5, 8 numbers wrap");
        CircuitCells x = Edges.after("size 1; target 64; delay 0;", 16);
        CHECK.is("LEVEL", x.count(9), 16);
        CHECK.is("BEYOND", x.count(6), 0);
        x.steps(16);
        CHECK.is("AHEAD 16 to 31 is BEYOND", x.count(6), 16);
        CHECK.is("LATE", x.count(5), 0);
        Edges.go(x, 32);
        CHECK.is("BEYOND", x.count(6), 16);
        CHECK.is("AHEAD 32 to 63 is LATE", x.count(5), 32);
        CHECK.is("slot(0)", x.slot(0), 0);
        x.steps(1);
        CHECK.is("packet 64 in place of 0", x.slot(0), 64);
        CHECK.is("LEVEL", x.count(9), 16);
        CHECK.is("SPREAD, AGE stay", x.count(13), 0);
        x.turn(2, 16);
        x.steps(1);
        CHECK.is("PLAYED", x.count(7), 1);
        CHECK.is("packet 64's octet", x.played(0, 0), 85 + 64);
        CHECK.is("WRONG", x.count(15), 1);
        CHECK.is("slot(0) is behind PLACE", x.slot(0), -1);
        CHECK.is("slot(1)", x.slot(1), 65);
        CHECK.is("slot(2)", x.slot(2), 2);
        x.steps(3);
        CHECK.is("WRONG", x.count(15), 4);
    }

    /** Packet 15 is lost, so that it plays when 79 has come; packet 64 and on lie in place of 0 and on. */
    private static void wrongByValue() {
        CHECK.begin("5 WRONG");
        String text = "size 4; target 64; delay 0; gain 0 0; lost packet = 15;";
        CircuitCells x = Edges.after(text, 320);
        CHECK.is("PLAYED", x.count(7), 1);
        CHECK.is("of packet 64", x.slot(0), 64);
        x.steps(20);
        CHECK.is("256 octets on, one octet's word: the same", x.count(15), 0);
        x = Edges.after(text + "word 1 2 3;", 320);
        x.steps(20);
        CHECK.is("three octets' word: another", x.count(15), 21);
        x = Edges.after("", 50);
        CHECK.is("none", x.count(15), 0);
    }

    /** Packets behind a wrap of 64 lie where the far end's next 64 should. */
    private static void wrongByNumber() {
        CHECK.begin("5 WRONG, by FIRST");
        CircuitCells x = Edges.after("size 1; target 16; delay 0; gain 0 0; lost packet = 15;", 80);
        CHECK.is("PLAYS", x.count(10), 2);
        CHECK.is("WRONG", x.count(15), 1);
        x = Edges.after("size 3; target 1; delay 0; gain 0 0; lost packet < 70;", 213);
        CHECK.is("FIRST is packet 70", x.slot(6), 70);
        CHECK.is("PLACE", x.set(13), 19);
        CHECK.is("its octet", x.played(0, 0), (85 + 210) % 256);
        CHECK.is("WRONG", x.count(15), 0);
    }

    private static void lateAndSpread() {
        CHECK.begin("5 LATE");
        // Packet 10 comes at TIME 15; its spot plays at TIME 10.
        CircuitCells x = Edges.after("size 1; target 1; gain 0 0; delay (packet = 10) * 5;", 11);
        CHECK.is("FILLED", x.count(8), 1);
        CHECK.is("LATE", x.count(5), 0);
        x.steps(5);
        CHECK.is("LATE", x.count(5), 1);
        CHECK.is("FILLED", x.count(8), 1);
        CHECK.is("in flight", x.count(4), 0);
        CHECK.is("not WRONG", x.count(15), 0);
        x = Edges.after("size 1; target 6; gain 0 0; delay (packet = 10) * 5;", 30);
        CHECK.is("not LATE", x.count(5), 0);
        CHECK.is("not FILLED", x.count(8), 0);
        x = Edges.after("size 1; target 5; gain 0 0; delay (packet = 10) * 5;", 30);
        CHECK.is("LATE", x.count(5), 1);
        CHECK.is("FILLED", x.count(8), 1);
    }

    private static void regained() {
        CHECK.begin("5 REGAINED");
        CircuitCells x = Edges.after("size 1; offset 50; target 64; delay 0;", 1);
        CHECK.is("AGE 0", x.count(13), 10000);
        x.steps(10);
        CHECK.is("10 spots in 10 steps", x.count(13), 0);
        x.steps(3);
        // TIME 13: octets made 14 * 1.05 = 14: 13 spots on; the latest stamp is 13.
        CHECK.is("13 spots in 13 steps", x.count(13), 0);
        x = Edges.after("size 2; offset -99; target 64; delay 0;", 35);
        // Octet 2 is made on step 3, octet 30, which ends packet 14, on step 34.
        CHECK.is("2 times 14 in 31 steps", x.count(13), 1000 * 2 * 14 / 31 - 1000);
        x.steps(10);
        CHECK.is("what is BEYOND counts for nothing: 2 times 15 in 33", x.count(13), 1000 * 2 * 15 / 33 - 1000);
        x = Edges.after("size 1; target 64; gain 0 0; delay (packet < 5) * (10 - 2*packet);", 20);
        CHECK.is("FIRST is the first that came; 0 to 4 are LATE", x.count(5), 5);
        x = Edges.after("size 8; target 64; delay 0; lost 0 < packet and packet < 4;", 40);
        CHECK.is("4 spots, 32 steps", x.count(13), 0);
        x = Edges.after("size 1; target 3; delay 60 - 60*(packet = 0);", 62);
        CHECK.is("what comes behind FIRST", x.count(13), 0);
    }

    private static void idleAgain() {
        CHECK.begin("5 a RESET");
        CircuitCells x = Edges.after("size 1; target 1; delay 0; lost packet;", 64);
        CHECK.is("63 FILLED", x.count(8), 63);
        CHECK.is("PLAYS", x.count(10), 2);
        x.steps(1);
        CHECK.is("64 FILLED", x.count(8), 64);
        CHECK.is("IDLE", x.count(10), 0);
        CHECK.is("RESETS", x.count(14), 1);
        CHECK.is("LEVEL", x.count(9), 0);
        CHECK.is("REGAINED", x.count(13), 10000);
        CHECK.is("PLACE stays", x.set(13), 65 % 64);
        CHECK.is("INTEGRAL stays", x.count(12), -8);
        Edges.go(x, 70);
        CHECK.is("no more", x.count(14) * 1000 + x.count(8), 1064);
        CHECK.is("SAMPLES", x.count(16), 9);
        // A CONTROL of 200 leaves a PHASE of 1000 or more at the RESET, now and then.
        x = Edges.after("size 8; target 64; gain 9 9; delay 0; every 1; lost 12 < packet;", 64);
        x.turn(2, 1);
        Edges.go(x, 200);
        CHECK.is("RESETS", x.count(14), 1);
        CHECK.is("FILLED, 64 in a row", x.count(8), 64);
        CHECK.is("CONTROL stays", x.count(11) != 0, true);
        CHECK.is("SLOTS are empty", x.slot(12), -1);
    }

    private static void restart() {
        CHECK.begin("5 anew behind a RESET");
        CircuitCells x = Edges.after("size 2; target 5; delay 1; gain 3 2; every 2; lost 3 < packet and packet < 50;", 98);
        CHECK.is("RESETS", x.count(14), 1);
        CHECK.is("IDLE", x.count(10), 0);
        int filled = x.count(8);
        CHECK.is("FILLED", filled, 64);
        x.steps(5);
        CHECK.is("FILLING", x.count(10), 1);
        CHECK.is("LEVEL", x.count(9), 2);
        CHECK.is("PLACE", x.set(13), 2 * 50);
        CHECK.is("AGE anew", x.count(13), 10000);
        CHECK.is("slot", x.slot(50), 50);
        x.steps(2);
        CHECK.is("FILLING", x.count(10), 1);
        CHECK.is("SPREAD by AGE anew", x.count(13), 0);
        x.steps(2);
        CHECK.is("PLAYS", x.count(10), 2);
        CHECK.is("its octet", x.played(0, 0), (85 + 100) % 256);
        CHECK.is("not WRONG", x.count(15), 0);
        CHECK.is("CONTROL anew", x.count(11), (3 * 1 + 2 * 1) / 16);
        CHECK.is("ERROR anew", x.set(14), 0);
    }

    private static void fillsAre(String text, int fill, int... due) {
        // Packet 1 is lost: its four octets are FILLED at TIME 7 to 10.
        CircuitCells x = Texts.told("size 4; target 4; delay 0; gain 0 0; word 10 20 30 40; lost packet = 1;" + text);
        if (fill > 0) {
            x.turn(1, fill);
        }
        x.steps(12);
        for (int i = 0; i < 4; i++) {
            CHECK.is("FILL " + fill + " octet " + i, x.played(4 - i, 0), due[i]);
            CHECK.is("FILLED", x.played(4 - i, 1), 1);
        }
        CHECK.is("the one behind", x.played(0, 0), 10 + 8);
        CHECK.is("not FILLED", x.played(0, 1), 0);
        CHECK.is("the one ahead", x.played(5, 0), 43);
        CHECK.is("not FILLED", x.played(5, 1), 0);
    }

    private static void fills() {
        CHECK.begin("5, 9 FILL");
        fillsAre("", 0, 43, 43, 43, 43);
        fillsAre("frame 3;", 0, 43, 43, 43, 43);
        fillsAre("frame 3;", 1, 126, 126, 126, 126);
        fillsAre("", 2, 43, 43, 43, 43);
        fillsAre("frame 2;", 2, 32, 43, 32, 43);
        fillsAre("frame 3;", 2, 21, 32, 43, 21);
        fillsAre("frame 4;", 2, 10, 21, 32, 43);
        fillsAre("frame 6;", 2, 126, 126, 10, 21);
        fillsAre("frame 8;", 2, 126, 126, 126, 126);
    }

    private static void played() {
        CHECK.begin("9 played");
        CircuitCells x = Edges.after(PLAIN, 127);
        CHECK.noElement("played(127, 0)", () -> x.played(127, 0));
        CHECK.is("played(126, 0)", x.played(126, 0), 85);
        Edges.go(x, 3);
        CHECK.is("played(127, 0)", x.played(127, 0), 85 + 2);
        CHECK.is("played(0, 0)", x.played(0, 0), 85 + 129);
        CHECK.is("PLAYED ever", x.count(7), 130);
        for (int i : new int[] {-1, 128, Integer.MIN_VALUE, Integer.MAX_VALUE}) {
            CHECK.noElement("played(" + i + ", 0)", () -> x.played(i, 0));
            CHECK.noElement("played(" + i + ", 1)", () -> x.played(i, 1));
        }
        for (int what : new int[] {-1, 2, Integer.MIN_VALUE, Integer.MAX_VALUE}) {
            CHECK.noElement("played(0, " + what + ")", () -> x.played(0, what));
        }
    }

    private static void spans() {
        CHECK.begin("10 spans");
        // One lost each, two, three; then each third.
        CircuitCells x = Edges.after(PLAIN + "lost packet = 5 or 9 < packet and packet < 12 or 19 < packet and packet < 23 or packet = 29;", 30);
        int[] all = {1, 2, 3, 1};
        CHECK.is("spans(1, NONE)", x.spans(1, -1), 4);
        for (int i = 0; i < 4; i++) {
            CHECK.is("spans(1, " + i + ")", x.spans(1, i), all[i]);
        }
        CHECK.is("spans(2, NONE)", x.spans(2, -1), 2);
        CHECK.is("spans(2, 0)", x.spans(2, 0), 2);
        CHECK.is("spans(2, 1)", x.spans(2, 1), 3);
        CHECK.is("spans(3, 0)", x.spans(3, 0), 3);
        CHECK.is("spans(4, NONE)", x.spans(4, -1), 0);
        CHECK.is("spans(128, NONE)", x.spans(128, -1), 0);
        CHECK.noElement("spans(1, 4)", () -> x.spans(1, 4));
        CHECK.noElement("spans(4, 0)", () -> x.spans(4, 0));
        CHECK.noElement("spans(1, -2)", () -> x.spans(1, -2));
        CHECK.noElement("spans(1, least)", () -> x.spans(1, Integer.MIN_VALUE));
        CHECK.noElement("spans(1, most)", () -> x.spans(1, Integer.MAX_VALUE));
        for (int least : new int[] {0, 129, -1, Integer.MIN_VALUE, Integer.MAX_VALUE}) {
            CHECK.illegal("spans(" + least + ", NONE)", () -> x.spans(least, -1));
            CHECK.illegal("spans(" + least + ", 99), ahead", () -> x.spans(least, 99));
        }
        Edges.go(x, 113);
        // Octets 15 to 142 are kept: the spans of 1 and 2 are gone.
        CHECK.is("of the latest 128", x.spans(1, -1), 2);
        Edges.go(x, 6);
        CHECK.is("cut by the earliest kept", x.spans(1, 0), 2);
    }

    private static void samples() {
        CHECK.begin("11 sample");
        CircuitCells x = Edges.after("size 1; target 1; delay 0; gain 0 0; every 1; offset 1;", 5);
        CHECK.is("SAMPLES", x.count(16), 5);
        for (int i = 0; i < 5; i++) {
            CHECK.is("sample(" + i + ")", x.sample(i), i);
        }
        CHECK.noElement("sample(5)", () -> x.sample(5));
        CHECK.noElement("sample(-1)", () -> x.sample(-1));
        Edges.go(x, 130);
        CHECK.is("at most 128", x.count(16), 128);
        CHECK.is("the earliest kept", x.sample(0), x.sample(127) - 127);
        CHECK.is("the latest", x.sample(127), 134);
        for (int i : new int[] {-1, 128, Integer.MIN_VALUE, Integer.MAX_VALUE}) {
            CHECK.noElement("sample(" + i + ")", () -> x.sample(i));
        }
        CircuitCells y = Edges.after("size 1; target 1; delay 0; every 7;", 22);
        CHECK.is("at TIME 0, 7, 14, 21", y.count(16), 4);
    }

    private static void wander() {
        CHECK.begin("12 wander");
        CircuitCells x = Texts.told("size 1; target 1; delay 0; gain 0 0; every 1;");
        CHECK.is("none", x.wander(2), -1);
        x.steps(1);
        CHECK.is("one", x.wander(2), -1);
        x.steps(1);
        CHECK.is("two", x.wander(2), 0);
        x.turn(0, 5);
        x.steps(2);
        x.turn(0, -3);
        x.steps(3);
        x.turn(0, 0);
        x.steps(3);
        // Samples 0 0 0 5 10 7 4 1 1 1.
        CHECK.is("the last", x.sample(9), 1);
        int[] due = {5, 10, 10, 10, 10, 10, 10, 10, 10};
        for (int w = 2; w <= 10; w++) {
            CHECK.is("wander(" + w + ")", x.wander(w), due[w - 2]);
        }
        CHECK.is("wander(128)", x.wander(128), 10);
        for (int w : new int[] {1, 0, -1, 129, Integer.MIN_VALUE, Integer.MAX_VALUE}) {
            CHECK.illegal("wander(" + w + ")", () -> x.wander(w));
        }
        CircuitCells y = Texts.told("size 1; target 1; delay 0; gain 0 0; every 1;");
        y.steps(3);
        y.turn(0, -7);
        y.steps(4);
        // Samples 0 0 0 0 -7 -14 -21.
        CHECK.is("wander(3)", y.wander(3), 14);
        CHECK.is("wander(4)", y.wander(4), 21);
    }

    private static void steps() {
        CHECK.begin("13 steps");
        CircuitCells x = new CircuitCells();
        int refused = 0;
        for (int many : new int[] {0, 51, -1, Integer.MIN_VALUE, Integer.MAX_VALUE}) {
            CHECK.is("steps(" + many + ")", x.steps(many), -1);
            refused++;
            CHECK.is("STATUS 1", x.count(21), refused);
        }
        CHECK.is("TIME", x.count(0), 0);
        CHECK.is("ACTS", x.count(17), 0);
        CHECK.is("steps(50)", x.steps(50), 50);
        CHECK.is("steps(1)", x.steps(1), 51);
        CHECK.is("ACTS", x.count(17), 2);
        CircuitCells y = new CircuitCells();
        for (int i = 0; i < 51; i++) {
            y.steps(1);
        }
        for (int i = 0; i < 17; i++) {
            CHECK.is("one at a time: count(" + i + ")", y.count(i), x.count(i));
        }
    }

    private static void timeLimit() {
        CHECK.begin("13 steps, TIME");
        CircuitCells x = new CircuitCells();
        Edges.go(x, 19950);
        x.steps(1);
        CHECK.is("steps(50)", x.steps(50), -1);
        CHECK.is("STATUS 1", x.count(21), 1);
        CHECK.is("steps(49)", x.steps(49), 20000);
        CHECK.is("steps(1)", x.steps(1), -1);
        CHECK.is("STATUS 1", x.count(21), 2);
        CHECK.is("ACTS", x.count(17), 40);
        CHECK.is("made", x.count(1), 20000);
        int filled = x.count(8);
        CHECK.is("THEN goes beyond", x.then(400, 3) > x.count(7), true);
        CHECK.is("but nothing changes", x.count(8), filled);
        x.undo();
        CHECK.is("TIME", x.count(0), 19951);
    }

    private static void lose() {
        CHECK.begin("14 lose");
        CircuitCells x = Texts.told(PLAIN);
        int refused = 0;
        for (int packets : new int[] {0, -1, 21, Integer.MIN_VALUE, Integer.MAX_VALUE}) {
            CHECK.is("lose(" + packets + ")", x.lose(packets), -1);
            refused++;
            CHECK.is("STATUS 1", x.count(21), refused);
        }
        CHECK.is("ACTS", x.count(17), 0);
        CHECK.is("lose(3)", x.lose(3), 0);
        CHECK.is("LOSSES", x.set(9), 3);
        CHECK.is("lose(3)", x.lose(3), -1);
        x.steps(2);
        CHECK.is("LOSSES", x.set(9), 1);
        CHECK.is("lost", x.count(3), 2);
        CHECK.is("lose(20)", x.lose(20), 1);
        CHECK.is("lose(0)", x.lose(0), 20);
        CHECK.is("ACTS", x.count(17), 4);
        x.steps(1);
        CHECK.is("lost", x.count(3), 2);
        CHECK.is("FIRST is packet 2", x.played(0, 0), 87);
        CircuitCells y = Texts.told(PLAIN + "lost packet < 3;");
        y.lose(2);
        y.steps(3);
        CHECK.is("LOSSES go ahead of LOST", y.set(9), 0);
        CHECK.is("lost", y.count(3), 3);
        y = Texts.told("size 1; target 64; delay 60;");
        y.steps(40);
        y.lose(2);
        y.steps(2);
        CHECK.is("LOSSES go ahead of 40 in flight", y.set(9), 0);
    }

    private static void stall() {
        CHECK.begin("15 stall");
        CircuitCells x = Texts.told("size 1; target 64; delay 59 + last;");
        int refused = 0;
        for (int steps : new int[] {0, -1, 31, Integer.MIN_VALUE, Integer.MAX_VALUE}) {
            CHECK.is("stall(" + steps + ")", x.stall(steps), -1);
            refused++;
            CHECK.is("STATUS 1", x.count(21), refused);
        }
        CHECK.is("stall(30)", x.stall(30), 0);
        CHECK.is("STALL", x.set(10), 30);
        CHECK.is("stall(30)", x.stall(30), -1);
        x.steps(2);
        CHECK.is("DUE", x.flying(0, 1), 59 + 30);
        CHECK.is("DUE, kept to 60 ahead of STALL", x.flying(1, 1), 1 + 60 + 30);
        CHECK.is("stall(0)", x.stall(0), 30);
        x.steps(1);
        CHECK.is("DUE", x.flying(2, 1), 2 + 60);
        CHECK.is("ACTS", x.count(17), 4);
    }

    private static void turn() {
        CHECK.begin("16 turn");
        CircuitCells x = Texts.told("offset 7; target 30;");
        for (int what : new int[] {-1, 3, Integer.MIN_VALUE, Integer.MAX_VALUE}) {
            CHECK.noElement("turn", () -> x.turn(what, 1));
        }
        CHECK.is("STATUS 1", x.count(21), 0);
        int[][] refused = {{0, 7}, {0, 100}, {0, -100}, {0, Integer.MIN_VALUE}, {1, 0}, {1, -1}, {1, 3},
            {1, Integer.MAX_VALUE}, {2, 30}, {2, 0}, {2, 65}, {2, -1}};
        for (int i = 0; i < refused.length; i++) {
            CHECK.is("turn(" + refused[i][0] + ", " + refused[i][1] + ")", x.turn(refused[i][0], refused[i][1]), 10000);
            CHECK.is("STATUS 1", x.count(21), i + 1);
        }
        CHECK.is("ACTS", x.count(17), 0);
        CHECK.is("OFFSET", x.turn(0, -99), 7);
        CHECK.is("OFFSET", x.turn(0, 99), -99);
        CHECK.is("OFFSET", x.set(5), 99);
        CHECK.is("FILL", x.turn(1, 2), 0);
        CHECK.is("FILL", x.turn(1, 1), 2);
        CHECK.is("FILL", x.set(8), 1);
        CHECK.is("TARGET", x.turn(2, 64), 30);
        CHECK.is("TARGET", x.turn(2, 1), 64);
        CHECK.is("TARGET", x.set(1), 1);
        CHECK.is("FILL", x.turn(1, 0), 1);
        CHECK.is("ACTS", x.count(17), 7);
        x.steps(50);
        CHECK.is("made by OFFSET", x.count(1), 50 * 1099 / 1000);
    }

    private static void undo() {
        CHECK.begin("17 undo");
        CircuitCells x = new CircuitCells();
        CHECK.is("none", x.undo(), -1);
        CHECK.is("STATUS 1", x.count(21), 0);
        for (int i = 0; i < 45; i++) {
            x.steps(1);
            CHECK.is("ACTS", x.count(17), Math.min(40, i + 1));
        }
        x.note(1, 1);
        x.steps(0);
        for (int i = 39; i >= 0; i--) {
            CHECK.is("undo()", x.undo(), i);
            CHECK.is("TIME", x.count(0), 5 + i);
        }
        CHECK.is("none", x.undo(), -1);
        CHECK.is("TIME", x.count(0), 5);
        CHECK.is("NOTED stays", x.count(18), 1);
        CHECK.is("STATUS stays", x.count(21), 1);
    }

    /** What an object shows, in some 200 calls. */
    private static int[] all(CircuitCells x) {
        int[] all = new int[17 + 15 + 64 + 8 + 30 + 30];
        int n = 0;
        for (int i = 0; i < 17; i++) {
            all[n++] = x.count(i);
        }
        for (int i = 0; i < 15; i++) {
            all[n++] = x.set(i);
        }
        for (int i = 0; i < 64; i++) {
            all[n++] = x.slot(i);
        }
        for (int i = 0; i < 8 && i < all[4]; i++) {
            all[n++] = x.flying(i, 0) * 1000000 + x.flying(i, 1) * 300 + x.flying(i, 2);
        }
        for (int i = 0; i < 30 && i < all[16]; i++) {
            all[n++] = x.sample(i);
        }
        for (int i = 0; i < 30 && i < all[7]; i++) {
            all[n++] = x.played(i, 0) * 2 + x.played(i, 1);
        }
        return all;
    }

    private static void alike(String what, int[] got, int[] due) {
        for (int i = 0; i < due.length; i++) {
            CHECK.is(what + ", number " + i, got[i], due[i]);
        }
    }

    /** An object that has done so many acts, of all kinds, each of which changes something. */
    private static CircuitCells acted(int acts) {
        CircuitCells x = Texts.told("size 3; target 9; offset 11; frame 5; word 3 1 4; delay 9 * (packet - packet/5*5 = 1); lost packet - packet/9*9 = 8;");
        for (int i = 0; i < acts; i++) {
            switch (i % 6) {
                case 0: x.steps(37); break;
                case 1: CHECK.is("lose", x.lose(i % 7 + 1) >= 0, true); break;
                case 2: CHECK.is("stall", x.stall(i) >= 0, true); break;
                case 3: CHECK.is("turn", x.turn(0, i) != 10000, true); break;
                case 4: CHECK.is("turn", x.turn(1, i / 6 % 2 == 0 ? 1 : 2) != 10000, true); break;
                default: CHECK.is("turn", x.turn(2, i) != 10000, true); break;
            }
        }
        return x;
    }

    private static void undoAll() {
        CHECK.begin("17 undo, of every kind");
        for (int i = 0; i < 30; i++) {
            CircuitCells x = acted(30);
            for (int left = 29; left > i; left--) {
                CHECK.is("undo()", x.undo(), left);
            }
            if (i == 20) {
                x.steps(50);
                x.undo();
            }
            CHECK.is("undo()", x.undo(), i);
            alike("as ahead of act " + i, all(x), all(acted(i)));
        }
    }
}
