/** The boundary cases that promises 5 to 17 name, a test for each sentence. */
public final class EdgesOfCallsTest {
    private static final Edges EDGES = new Edges();
    private static final Check CHECK = EDGES.check;
    private static final String PLAIN = Edges.PLAIN;
    private static final int LEAST = Integer.MIN_VALUE;
    private static final int MOST = Integer.MAX_VALUE;

    private EdgesOfCallsTest() {
    }

    public static void main(String[] args) {
        countWhat();
        countOfNothing();
        setWhat();
        setPlace();
        flyingWhich();
        slotWhich();
        slotOfPlaceOrAbove();
        playedWhich();
        spans();
        sampleWhich();
        wander();
        steps();
        lose();
        stall();
        turn();
        undo();
        status();
        lifeOfAnObject();
        CHECK.end();
    }

    private static void spans() {
        spansLeast();
        spansWhich();
        spansAmong128();
    }

    private static void wander() {
        wanderSamples();
        wanderOfFewer();
        wanderOfEach();
    }

    private static void steps() {
        stepsMany();
        stepsAbove20000();
    }

    private static void turn() {
        turnWhat();
        turnOffset();
        turnFill();
        turnTarget();
    }

    private static void refused(String call, Edges.Asked asked, int due) {
        EDGES.refused(call, Edges::busy, asked, due, 1);
    }

    private static void noElement(String call, Edges.Asked asked) {
        EDGES.noElement(call, Edges::busy, asked);
    }

    private static void illegal(String call, Edges.Asked asked) {
        EDGES.illegal(call, Edges::busy, asked);
    }

    private static void countWhat() {
        EDGES.sentence("5", "20 to 22 STATUS 0 to 2. NoSuchElementException: another what.");
        for (int what : new int[] {-1, 23, LEAST, MOST}) {
            noElement("count(" + what + ")", x -> x.count(what));
        }
        CircuitCells x = Edges.busy();
        CHECK.is("count(0), TIME", x.count(0), 26);
        x.note(61, 0);
        x.note(61, 0);
        CHECK.is("count(22), STATUS 2", x.count(22), 2);
    }

    private static void countOfNothing() {
        EDGES.sentence("5", "13 REGAINED (10000: none)");
        CHECK.is("IDLE", new CircuitCells().count(13), 10000);
        CircuitCells x = Edges.after("size 1; target 64; delay 0; lost packet < 10; offset 99;", 10);
        CHECK.is("IDLE", x.count(13), 10000);
        x.steps(1);
        CHECK.is("PACKETS 10 and 11 are sent at TIME 10: AGE 0", x.count(13), 10000);
        CHECK.is("LEVEL", x.count(9), 2);
        x.steps(1);
        CHECK.is("2 OCTETS by 1 STEP", x.count(13), 1000);
        x.steps(1);
        CHECK.is("3 OCTETS by 2 STEPS", x.count(13), 500);
        CircuitCells y = Edges.after("size 1; target 64; delay 0; offset -99;", 12);
        CHECK.is("9 OCTETS by 10 STEPS", y.count(13), -100);
        CircuitCells z = Edges.after(PLAIN + "lost 1 < packet;", 65);
        CHECK.is("PLAYING", z.count(13), 0);
        z.steps(1);
        CHECK.is("a RESET: IDLE", z.count(13), 10000);
    }

    private static void setWhat() {
        EDGES.sentence("6", "13 PLACE (MOD 64 SIZE), 14 ERROR. NoSuchElementException: another what.");
        for (int what : new int[] {-1, 15, LEAST, MOST}) {
            noElement("set(" + what + ")", x -> x.set(what));
        }
        CircuitCells x = Edges.after(PLAIN + "offset 3;", 2);
        CHECK.is("set(0), SIZE", x.set(0), 1);
        CHECK.is("set(14), ERROR", x.set(14), 6);
    }

    private static void setPlace() {
        EDGES.sentence("6", "PLACE (MOD 64 SIZE)");
        CircuitCells x = Edges.after(PLAIN, 63);
        CHECK.is("63", x.set(13), 63);
        x.steps(1);
        CHECK.is("64", x.set(13), 0);
        x.steps(1);
        CHECK.is("65", x.set(13), 1);
        CircuitCells y = Edges.after("size 8; target 8; delay 0; gain 0 0;", 7 + 511);
        CHECK.is("511", y.set(13), 511);
        y.steps(1);
        CHECK.is("512", y.set(13), 0);
        y.steps(1);
        CHECK.is("513", y.set(13), 1);
        CircuitCells z = Edges.after("size 3; target 3; delay 0; gain 0 0;", 2 + 192);
        CHECK.is("192", z.set(13), 0);
    }

    private static void flyingWhich() {
        EDGES.sentence("7", "Of the i-th PACKET in flight (as SENT, 0 on): which it is (what 0), DUE (1), STAMP (2). NoSuchElementException: there is none, another what.");
        CHECK.noElement("none in flight", () -> new CircuitCells().flying(0, 0));
        CircuitCells x = Edges.after("size 1; target 64; delay 9 - packet;", 3);
        int[][] due = {{0, 9, 0}, {1, 9, 1}, {2, 9, 2}};
        for (int i = 0; i < 3; i++) {
            for (int what = 0; what < 3; what++) {
                CHECK.is("flying(" + i + ", " + what + ")", x.flying(i, what), due[i][what]);
            }
        }
        for (int i : new int[] {-1, 3, LEAST, MOST}) {
            for (int what = -1; what < 4; what++) {
                int w = what;
                CHECK.noElement("flying(" + i + ", " + what + ")", () -> x.flying(i, w));
            }
        }
        for (int what : new int[] {-1, 3, LEAST, MOST}) {
            CHECK.noElement("flying(0, " + what + ")", () -> x.flying(0, what));
            CHECK.noElement("flying(2, " + what + ")", () -> x.flying(2, what));
            noElement("flying(0, " + what + ")", y -> y.flying(0, what));
        }
        CircuitCells z = Edges.after("size 1; target 64; delay 5*packet; lost 3 < packet;", 7);
        CHECK.is("packets 0 and 1 came: which", z.flying(0, 0), 2);
        CHECK.is("DUE", z.flying(0, 1), 2 + 10);
        CHECK.is("STAMP", z.flying(0, 2), 2);
        CHECK.is("which", z.flying(1, 0), 3);
        CHECK.is("STAMP", z.flying(1, 2), 3);
        CHECK.noElement("flying(2, 0)", () -> z.flying(2, 0));
        noElement("flying(-1, 0)", y -> y.flying(-1, 0));
        noElement("flying(40, 0)", y -> y.flying(40, 0));
    }

    private static void slotWhich() {
        EDGES.sentence("8", "Which PACKET lies in the SLOT of a number (0 to 63) for the spot of PLACE or above; NONE: none. NoSuchElementException: no such number.");
        for (int number : new int[] {-1, 64, LEAST, MOST}) {
            noElement("slot(" + number + ")", x -> x.slot(number));
            CHECK.noElement("slot(" + number + ") of a new object", () -> new CircuitCells().slot(number));
        }
        CHECK.is("slot(0) of a new object", new CircuitCells().slot(0), -1);
        CHECK.is("slot(63) of a new object", new CircuitCells().slot(63), -1);
        CircuitCells x = Edges.after(Edges.FILLING + "lost packet < 62;", 66);
        int[] due = {64, 65, -1};
        for (int number = 0; number < 3; number++) {
            CHECK.is("slot(" + number + ")", x.slot(number), due[number]);
        }
        CHECK.is("slot(61)", x.slot(61), -1);
        CHECK.is("slot(62)", x.slot(62), 62);
        CHECK.is("slot(63)", x.slot(63), 63);
    }

    private static void slotOfPlaceOrAbove() {
        EDGES.sentence("8", "for the spot of PLACE or above; NONE: none");
        CircuitCells x = Edges.after("size 4; target 8; delay 0; gain 0 0;", 8);
        for (int place = 1; place <= 12; place++) {
            CHECK.is("PLACE", x.set(13), place);
            CHECK.is("slot(0) at PLACE " + place, x.slot(0), place < 4 ? 0 : -1);
            CHECK.is("slot(1) at PLACE " + place, x.slot(1), place < 8 ? 1 : -1);
            CHECK.is("slot(2) at PLACE " + place, x.slot(2), place < 5 || place >= 12 ? -1 : 2);
            x.steps(1);
        }
        CircuitCells y = Edges.after(PLAIN, 65);
        CHECK.is("PLACE 65: packet 64 is PLAYED", y.slot(0), -1);
        CHECK.is("packet 1 is", y.slot(1), -1);
    }

    private static void playedWhich() {
        EDGES.sentence("9", "Of the i-th latest OCTET PLAYED (0 the latest): it (what 0), whether FILLED (1). NoSuchElementException: there is none (kept), another what.");
        CHECK.noElement("none", () -> new CircuitCells().played(0, 0));
        CHECK.noElement("none", () -> new CircuitCells().played(0, 1));
        for (int many : new int[] {1, 2, 127, 128, 129, 130}) {
            CircuitCells x = Edges.after(PLAIN + "lost packet = 1;", many);
            int kept = Math.min(many, 128);
            CHECK.is("the latest", x.played(0, 0), many == 2 ? 85 : (85 + many - 1) % 256);
            CHECK.is("the latest, FILLED", x.played(0, 1), many == 2 ? 1 : 0);
            CHECK.is("the earliest kept", x.played(kept - 1, 0), many == 129 ? 85 : 85 + many - kept);
            CHECK.is("the earliest kept, FILLED", x.played(kept - 1, 1), many == 129 ? 1 : 0);
            for (int what = 0; what < 2; what++) {
                int w = what;
                CHECK.noElement("played(" + kept + ", " + what + ")", () -> x.played(kept, w));
                CHECK.noElement("played(-1, " + what + ")", () -> x.played(-1, w));
            }
            CHECK.noElement("played(0, 2)", () -> x.played(0, 2));
            CHECK.noElement("played(0, -1)", () -> x.played(0, -1));
            CHECK.noElement("played(" + (kept - 1) + ", 2)", () -> x.played(kept - 1, 2));
        }
        for (int octet : new int[] {0, 1, 254, 255}) {
            CircuitCells x = Edges.after(PLAIN + "word " + octet + "; lost packet = 1;", 2);
            CHECK.is("FILLED with " + octet, x.played(0, 0), octet);
            CHECK.is("FILLED with " + octet, x.played(0, 1), 1);
            CHECK.is("PLAYED " + octet, x.played(1, 0), octet);
            CHECK.is("PLAYED " + octet, x.played(1, 1), 0);
        }
        for (int odd : new int[] {-1, 128, LEAST, MOST}) {
            noElement("played(" + odd + ", 0)", x -> x.played(odd, 0));
            noElement("played(0, " + odd + ")", x -> x.played(0, odd));
        }
    }

    private static void spansLeast() {
        EDGES.sentence("10", "IllegalArgumentException (ahead): not 1 to 128.");
        for (int least : new int[] {0, -1, 129, LEAST, MOST}) {
            illegal("spans(" + least + ", NONE)", x -> x.spans(least, -1));
            illegal("spans(" + least + ", 0)", x -> x.spans(least, 0));
            illegal("spans(" + least + ", 99), ahead of there being none", x -> x.spans(least, 99));
            illegal("spans(" + least + ", -2), ahead of there being none", x -> x.spans(least, -2));
        }
        CircuitCells x = Edges.after(PLAIN + "lost packet = 1;", 3);
        CHECK.is("spans(1, NONE)", x.spans(1, -1), 1);
        CHECK.is("spans(2, NONE)", x.spans(2, -1), 0);
        CHECK.is("spans(127, NONE)", x.spans(127, -1), 0);
        CHECK.is("spans(128, NONE)", x.spans(128, -1), 0);
    }

    private static void spansWhich() {
        EDGES.sentence("10", "SPANS of at least so many: how many (i NONE), of the i-th (0 the earliest) how long it is. NoSuchElementException: there is none.");
        CHECK.is("none PLAYED", new CircuitCells().spans(1, -1), 0);
        CHECK.noElement("none PLAYED", () -> new CircuitCells().spans(1, 0));
        // Rows of 3, 1, 2; the last goes on.
        CircuitCells x = Edges.after(PLAIN + "lost 0 < packet and packet < 4 or packet = 6 or 8 < packet;", 11);
        int[][] due = {{3, 1, 2}, {3, 2}, {3}, {}};
        for (int least = 1; least <= 4; least++) {
            int l = least;
            int many = due[least - 1].length;
            CHECK.is("spans(" + least + ", NONE)", x.spans(least, -1), many);
            for (int i = 0; i < many; i++) {
                CHECK.is("spans(" + least + ", " + i + ")", x.spans(least, i), due[least - 1][i]);
            }
            for (int i : new int[] {many, many + 1, -2, LEAST, MOST}) {
                CHECK.noElement("spans(" + least + ", " + i + ")", () -> x.spans(l, i));
            }
        }
        noElement("spans(1, -2)", y -> y.spans(1, -2));
        noElement("spans(1, 99)", y -> y.spans(1, 99));
        x.steps(1);
        CHECK.is("as many as can be", x.spans(1, 2), 3);
        // 63 FILLED, and 64, which are a RESET.
        CircuitCells y = Edges.after(PLAIN + "lost 0 < packet;", 64);
        CHECK.is("spans(63, 0)", y.spans(63, 0), 63);
        CHECK.is("spans(64, NONE)", y.spans(64, -1), 0);
        y.steps(1);
        CHECK.is("spans(63, 0)", y.spans(63, 0), 64);
        CHECK.is("spans(64, 0)", y.spans(64, 0), 64);
        CHECK.is("spans(65, NONE)", y.spans(65, -1), 0);
    }

    private static void spansAmong128() {
        EDGES.sentence("10", "SPANS: rows of FILLED ones among the 128, side by side, as many as can be; those of at least so many");
        // OCTETS 1 to 3 and 128 to 130 are FILLED.
        String text = PLAIN + "lost 0 < packet and packet < 4 or 127 < packet and packet < 131;";
        int[][] due = {{128, 3, 0}, {129, 3, 1}, {130, 2, 2}, {131, 1, 3}, {132, 3, 0}};
        for (int[] row : due) {
            CircuitCells x = Edges.after(text, row[0]);
            CHECK.is("the earliest of " + row[0], x.spans(1, 0), row[1]);
            CHECK.is("how many of " + row[0], x.spans(1, -1), row[2] == 0 ? 1 : 2);
            if (row[2] > 0) {
                CHECK.is("the latest of " + row[0], x.spans(1, 1), row[2]);
            }
        }
    }

    private static void sampleWhich() {
        EDGES.sentence("11", "The i-th SAMPLE (0 the earliest kept). NoSuchElementException: there is none.");
        CHECK.noElement("none", () -> new CircuitCells().sample(0));
        CircuitCells x = Edges.after(PLAIN + "every 2; offset 3;", 5);
        int[] due = {0, 6, 12};
        for (int i = 0; i < 3; i++) {
            CHECK.is("sample(" + i + ")", x.sample(i), due[i]);
        }
        for (int i : new int[] {-1, 3, 128, LEAST, MOST}) {
            CHECK.noElement("sample(" + i + ")", () -> x.sample(i));
        }
        for (int i : new int[] {-1, 128, LEAST, MOST}) {
            noElement("sample(" + i + ")", y -> y.sample(i));
        }
    }

    private static void wanderSamples() {
        EDGES.sentence("12", "WANDER; NONE: none. IllegalArgumentException: not 2 to 128.");
        for (int samples : new int[] {1, 0, -1, 129, LEAST, MOST}) {
            illegal("wander(" + samples + ")", x -> x.wander(samples));
            CHECK.illegal("wander(" + samples + ") of none", () -> new CircuitCells().wander(samples));
        }
        // ERROR is 1 more on each STEP: SAMPLES 0, 1, 2 and so on.
        CircuitCells x = Edges.after(PLAIN + "every 1; offset 1;", 140);
        for (int samples : new int[] {2, 3, 127, 128}) {
            CHECK.is("wander(" + samples + ")", x.wander(samples), samples - 1);
        }
    }

    private static void wanderOfFewer() {
        EDGES.sentence("12", "WANDER over w SAMPLES (2 to 128): of each w ones side by side (of all, if there are fewer, but 2 at least) the most less the least; the most of these; none of fewer than 2");
        CHECK.is("no SAMPLE", new CircuitCells().wander(2), -1);
        CHECK.is("no SAMPLE", new CircuitCells().wander(128), -1);
        int[][] due = {{1, -1, -1, -1, -1}, {2, 5, 5, 5, 5}, {3, 5, 10, 10, 10}, {4, 5, 10, 15, 15}, {5, 5, 10, 15, 20}};
        for (int[] row : due) {
            CircuitCells x = Edges.after(PLAIN + "every 1; offset 5;", row[0]);
            CHECK.is("SAMPLES", x.count(16), row[0]);
            CHECK.is("wander(2) of " + row[0], x.wander(2), row[1]);
            CHECK.is("wander(3) of " + row[0], x.wander(3), row[2]);
            CHECK.is("wander(4) of " + row[0], x.wander(4), row[3]);
            CHECK.is("wander(128) of " + row[0], x.wander(128), row[4]);
        }
        CircuitCells y = Edges.after(PLAIN + "every 1; offset 5;", 127);
        CHECK.is("127 SAMPLES", y.wander(128), 5 * 126);
        y.steps(1);
        CHECK.is("128 SAMPLES", y.wander(128), 5 * 127);
        y.steps(1);
        CHECK.is("129 SAMPLES, 128 are kept", y.wander(128), 5 * 127);
    }

    private static void wanderOfEach() {
        EDGES.sentence("12", "of each w ones side by side");
        // SAMPLES 0, 9, 9, 9, 9, 2, 2: the earliest two and the latest ones.
        CircuitCells x = Texts.told(PLAIN + "every 1; offset 9;");
        x.steps(1);
        x.turn(0, 0);
        x.steps(3);
        x.turn(0, -7);
        x.steps(1);
        x.turn(0, 0);
        x.steps(2);
        int[] samples = {0, 9, 9, 9, 9, 2, 2};
        for (int i = 0; i < samples.length; i++) {
            CHECK.is("sample(" + i + ")", x.sample(i), samples[i]);
        }
        CHECK.is("the earliest two", x.wander(2), 9);
        x.steps(50);
        x.steps(50);
        x.steps(22);
        CHECK.is("129 ever", x.count(16), 128);
        CHECK.is("the earliest is 9 now", x.sample(0), 9);
        CHECK.is("9 and 2", x.wander(2), 7);
        x.steps(3);
        CHECK.is("9, 2: the earliest two", x.wander(2), 7);
        x.steps(1);
        CHECK.is("2 and 2", x.wander(2), 0);
        CHECK.is("2 and 2", x.wander(128), 0);
        x.turn(0, 4);
        x.steps(1);
        CHECK.is("none of it yet", x.wander(128), 0);
        x.steps(1);
        CHECK.is("the latest two", x.wander(2), 4);
    }

    private static void stepsMany() {
        EDGES.sentence("13", "STEPS go by: the TIME. NONE (STATUS 1): not 1 to 50");
        for (int many : new int[] {0, -1, 51, LEAST, MOST}) {
            refused("steps(" + many + ")", x -> x.steps(many), -1);
        }
        for (int many : new int[] {1, 2, 49, 50}) {
            CircuitCells x = new CircuitCells();
            CHECK.is("steps(" + many + ")", x.steps(many), many);
            CHECK.is("made", x.count(1), many);
            CHECK.is("ACTS", x.count(17), 1);
            CHECK.is("STATUS 1", x.count(21), 0);
        }
    }

    private static void stepsAbove20000() {
        EDGES.sentence("13", "it would be above 20000");
        CircuitCells x = Texts.told("size 8; target 9;");
        Edges.go(x, 19950);
        CHECK.is("steps(50) at 19950", x.steps(50), 20000);
        CHECK.is("steps(1) at 20000", x.steps(1), -1);
        CHECK.is("STATUS 1", x.count(21), 1);
        CHECK.is("TIME", x.count(0), 20000);
        CHECK.is("undo()", x.undo(), 39);
        CHECK.is("TIME", x.count(0), 19950);
        CHECK.is("steps(1)", x.steps(1), 19951);
        CHECK.is("steps(50) at 19951", x.steps(50), -1);
        CHECK.is("STATUS 1", x.count(21), 2);
        CHECK.is("TIME", x.count(0), 19951);
        CHECK.is("made", x.count(1), 19951);
        CHECK.is("steps(49)", x.steps(49), 20000);
        CHECK.is("steps(50) at 20000", x.steps(50), -1);
        CHECK.is("steps(51) at 20000", x.steps(51), -1);
        CHECK.is("STATUS 1", x.count(21), 4);
        CHECK.is("made", x.count(1), 20000);
        CHECK.is("other ACTS are done", x.lose(3), 0);
        CHECK.is("THEN goes on", x.then(400, 3), x.then(0, 3) + 400);
    }

    private static void lose() {
        EDGES.sentence("14", "LOSSES, as they were. NONE (STATUS 1): not 0 to 20, it is so.");
        for (int packets : new int[] {-1, 21, LEAST, MOST}) {
            refused("lose(" + packets + ")", x -> x.lose(packets), -1);
        }
        EDGES.refused("lose(0), it is so", CircuitCells::new, x -> x.lose(0), -1, 1);
        CircuitCells x = new CircuitCells();
        int[] told = {1, 19, 20, 0};
        int was = 0;
        for (int packets : told) {
            CHECK.is("lose(" + packets + ")", x.lose(packets), was);
            CHECK.is("LOSSES", x.set(9), packets);
            CHECK.is("lose(" + packets + ") again", x.lose(packets), -1);
            was = packets;
        }
        CHECK.is("ACTS", x.count(17), 4);
        CHECK.is("STATUS 1", x.count(21), 4);
        CircuitCells y = Texts.told("size 1; target 64;");
        y.lose(20);
        y.steps(20);
        CHECK.is("20 are lost", y.count(3), 20);
        CHECK.is("LOSSES", y.set(9), 0);
        y.steps(1);
        CHECK.is("and no more", y.count(3), 20);
    }

    private static void stall() {
        EDGES.sentence("15", "STALL, as it was. NONE (STATUS 1): not 0 to 30, it is so.");
        for (int steps : new int[] {-1, 31, LEAST, MOST}) {
            refused("stall(" + steps + ")", x -> x.stall(steps), -1);
        }
        refused("stall(3), it is so", x -> x.stall(3), -1);
        EDGES.refused("stall(0), it is so", CircuitCells::new, x -> x.stall(0), -1, 1);
        CircuitCells x = new CircuitCells();
        int was = 0;
        for (int steps : new int[] {1, 29, 30, 0}) {
            CHECK.is("stall(" + steps + ")", x.stall(steps), was);
            CHECK.is("STALL", x.set(10), steps);
            CHECK.is("stall(" + steps + ") again", x.stall(steps), -1);
            was = steps;
        }
        CHECK.is("ACTS", x.count(17), 4);
        CHECK.is("STATUS 1", x.count(21), 4);
    }

    private static void turnWhat() {
        EDGES.sentence("16", "10000 (STATUS 1): not as told, it is so. NoSuchElementException: another what.");
        for (int what : new int[] {-1, 3, LEAST, MOST}) {
            for (int number : new int[] {1, 100, LEAST}) {
                noElement("turn(" + what + ", " + number + ")", x -> x.turn(what, number));
            }
        }
        CircuitCells x = new CircuitCells();
        CHECK.is("turn(0, 1)", x.turn(0, 1), 0);
        CHECK.is("turn(2, 1)", x.turn(2, 1), 12);
        CHECK.is("ACTS", x.count(17), 2);
    }

    /** What can be turned: all at the edges, and that it is so already. */
    private static void turnAtEdges(int what, int set, int least, int most, int isSo) {
        for (int number : new int[] {least - 1, most + 1, LEAST, MOST, isSo}) {
            refused("turn(" + what + ", " + number + ")", x -> x.turn(what, number), 10000);
        }
        CircuitCells x = Edges.busy();
        int was = isSo;
        int acts = x.count(17);
        for (int number : new int[] {least, least + 1, most - 1 == least ? least : most - 1, most}) {
            if (number == was) {
                continue;
            }
            CHECK.is("turn(" + what + ", " + number + ")", x.turn(what, number), was);
            CHECK.is("set(" + set + ")", x.set(set), number);
            acts++;
            CHECK.is("ACTS", x.count(17), acts);
            CHECK.is("it is so", x.turn(what, number), 10000);
            was = number;
        }
    }

    private static void turnOffset() {
        EDGES.sentence("16", "TURNED: OFFSET (what 0), FILL (1), TARGET (2), as it was");
        turnAtEdges(0, 5, -99, 99, -20);
        CircuitCells x = new CircuitCells();
        CHECK.is("turn(0, 0), it is so", x.turn(0, 0), 10000);
        CHECK.is("turn(0, -1)", x.turn(0, -1), 0);
        CHECK.is("turn(0, 0)", x.turn(0, 0), -1);
    }

    private static void turnFill() {
        EDGES.sentence("16", "OFFSET (-99 to 99), FILL (0 to 2), TARGET (1 to 64) are TURNED");
        turnAtEdges(1, 8, 0, 2, 2);
        CHECK.is("turn(1, 0), it is so", new CircuitCells().turn(1, 0), 10000);
    }

    private static void turnTarget() {
        EDGES.sentence("16", "TARGET (1 to 64) are TURNED");
        turnAtEdges(2, 1, 1, 64, 7);
        CHECK.is("turn(2, 12), it is so", new CircuitCells().turn(2, 12), 10000);
    }

    private static void undo() {
        EDGES.sentence("17", "The last ACT is UNDONE: how many are left. NONE: there is none.");
        EDGES.refused("undo() of none", CircuitCells::new, CircuitCells::undo, -1, -1);
        CircuitCells x = Edges.busy();
        for (int left = 6; left >= 0; left--) {
            CHECK.is("undo()", x.undo(), left);
            CHECK.is("ACTS", x.count(17), left);
        }
        CHECK.is("undo()", x.undo(), -1);
        CHECK.is("undo()", x.undo(), -1);
        CHECK.is("ACTS", x.count(17), 0);
        CHECK.is("TIME", x.count(0), 0);
        CHECK.is("NOTED stays", x.count(18), 1);
        CHECK.is("STATUS 1 stays", x.count(21), 0);
        CHECK.is("steps(1)", x.steps(1), 1);
        CHECK.is("undo()", x.undo(), 0);
    }

    private static void status() {
        EDGES.sentence("5", "STATUS: how many calls were refused: 0 TEXTS with a FAULT, 1 ACTS, 2 what is NOTED (not counted where an exception tells it)");
        CircuitCells x = new CircuitCells();
        CHECK.illegal("line(1)", () -> x.line(1));
        CHECK.noElement("turn(3, 0)", () -> x.turn(3, 0));
        x.undo();
        x.restore();
        x.forget();
        for (int i = 20; i < 23; i++) {
            CHECK.is("STATUS " + (i - 20), x.count(i), 0);
        }
        Texts.tell(x, "x");
        x.steps(0);
        x.lose(0);
        x.stall(0);
        x.turn(0, 0);
        x.note(-1, 0);
        x.note(0, -1);
        CHECK.is("STATUS 0", x.count(20), 1);
        CHECK.is("STATUS 1", x.count(21), 4);
        CHECK.is("STATUS 2", x.count(22), 2);
        x.steps(1);
        x.undo();
        CHECK.is("STATUS 1 is not undone", x.count(21), 4);
    }

    private static void lifeOfAnObject() {
        EDGES.sentence("5, 13", "An object is used for at most 512 calls after it has been made");
        CircuitCells x = new CircuitCells();
        for (int i = 1; i <= 510; i++) {
            x.steps(i % 2 == 0 ? 1 : 0);
        }
        CHECK.is("the 511th call: STATUS 1", x.count(21), 255);
        CHECK.is("the 512th call", x.steps(50), 305);
    }
}
