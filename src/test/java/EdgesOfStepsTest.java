/** The boundary cases that part 2 of the Terms names, a test for each sentence; seen by promises 5 to 9 and 13 to 17. */
public final class EdgesOfStepsTest {
    private static final Edges EDGES = new Edges();
    private static final Check CHECK = EDGES.check;
    private static final String PLAIN = Edges.PLAIN;
    private static final String FILLING = Edges.FILLING;
    /** PLAYS from TIME 63 on, of 64 OCTETS, and none come any more. */
    private static final String DRAINS = "size 8; target 64; delay 0; every 1; lost 7 < packet;";

    private EdgesOfStepsTest() {
    }

    public static void main(String[] args) {
        farEnd();
        sending();
        coming();
        putting();
        steering();
        playing();
        acts();
        CHECK.end();
    }

    private static void farEnd() {
        beginning();
        farPhase();
        twoMade();
        sizeOfThem();
    }

    private static void sending() {
        delayKept();
        delayWithout();
        stallMore();
        lossesTold();
        lostMoreThanNothing();
        fortyInFlight();
        stamped();
        numbered();
        lastOfLostOnes();
    }

    private static void coming() {
        dueAtTime();
        orderOfComing();
        ifIdle();
        ahead();
        aheadWithinAPacket();
    }

    private static void putting() {
        insteadOfWhatIsThere();
        aboveAll();
        ageMod256();
        level();
        levelIsZero();
    }

    private static void steering() {
        targetOrMore();
        clearedAtPlaying();
        timeModEvery();
        mostIntegral();
        leastIntegral();
        controlCutDown();
        mostControl();
        leastControl();
        latestSamples();
    }

    private static void playing() {
        nearPhase();
        twoPlayed();
        errorOfPlaying();
        fillByTheLatest();
        fillByIdle();
        fillByFrame();
        filledInARow();
        restOfTheStep();
        slotsAreEmpty();
    }

    private static void acts() {
        fortyActs();
        undoneWithAll();
        actsThatChangeNothing();
        inPlaceOfWhatIsLeft();
        lastOneFirst();
    }

    private static void beginning() {
        EDGES.sentence("5, 6", "All begins at TIME 0, nothing sent, the near end IDLE (0; it is FILLING 1, PLAYING 2), its FILL 0");
        CircuitCells x = Texts.told(DRAINS);
        CHECK.is("TIME", x.count(0), 0);
        CHECK.is("SENT", x.count(2), 0);
        CHECK.is("IDLE", x.count(10), 0);
        CHECK.is("FILL", x.set(8), 0);
        x.steps(7);
        CHECK.is("behind 7 steps, nothing has come: IDLE", x.count(10), 0);
        x.steps(1);
        CHECK.is("behind 8: FILLING", x.count(10), 1);
        Edges.go(x, 55);
        CHECK.is("behind 63: FILLING", x.count(10), 1);
        x.steps(1);
        CHECK.is("behind 64: PLAYING", x.count(10), 2);
    }

    private static void farPhase() {
        EDGES.sentence("5, 6", "as often as it is 1000 or more, it is 1000 less, and an OCTET is made");
        int[][] due = {{-99, 0, 901}, {-1, 0, 999}, {0, 1, 0}, {1, 1, 1}, {99, 1, 99}};
        for (int[] row : due) {
            CircuitCells x = Edges.after("offset " + (row[0] < 0 ? "-" + -row[0] : row[0]) + ";", 1);
            CHECK.is("made by OFFSET " + row[0], x.count(1), row[1]);
            CHECK.is("far PHASE by OFFSET " + row[0], x.set(11), row[2]);
        }
    }

    private static void twoMade() {
        EDGES.sentence("5, 6", "as often as it is 1000 or more, it is 1000 less");
        CircuitCells x = Edges.after("offset 27;", 36);
        CHECK.is("far PHASE", x.set(11), 972);
        x.steps(1);
        CHECK.is("1999: one made", x.count(1), 37);
        CHECK.is("far PHASE", x.set(11), 999);
        x.steps(1);
        CHECK.is("2026: two made", x.count(1), 39);
        CHECK.is("far PHASE", x.set(11), 26);
        CircuitCells y = Edges.after("offset 50;", 19);
        CHECK.is("far PHASE", y.set(11), 950);
        CHECK.is("made", y.count(1), 19);
        y.steps(1);
        CHECK.is("2000: two made", y.count(1), 21);
        CHECK.is("far PHASE", y.set(11), 0);
    }

    private static void sizeOfThem() {
        EDGES.sentence("5", "with SIZE of them (in order, from OCTET 0 on) a PACKET is SENT");
        for (int size = 1; size <= 8; size++) {
            CircuitCells x = Edges.after("size " + size + "; target 64;", size - 1);
            CHECK.is("SIZE less 1 of them", x.count(2), 0);
            x.steps(1);
            CHECK.is("SIZE of them", x.count(2), 1);
            CHECK.is("STAMP", x.flying(0, 2), size - 1);
            Edges.go(x, size - 1);
            CHECK.is("twice SIZE less 1", x.count(2), 1);
            x.steps(1);
            CHECK.is("twice SIZE", x.count(2), 2);
        }
        CircuitCells y = Edges.after("size 3; target 3; delay 0; gain 0 0;", 6);
        for (int i = 0; i < 4; i++) {
            CHECK.is("OCTET " + i, y.played(3 - i, 0), 85 + i);
        }
    }

    /** DUE of the first PACKET, sent at TIME 0 or, behind acts, later; NONE if it has come. */
    private static int firstDue(String delay, int stall) {
        CircuitCells x = Texts.told("size 1; target 64;" + delay);
        if (stall > 0) {
            x.stall(stall);
        }
        x.steps(1);
        return x.count(4) == 0 ? -1 : x.flying(0, 1);
    }

    private static void delayKept() {
        EDGES.sentence("7", "kept to 0 to 60, and STALL more");
        CHECK.is("DELAY -1: it came", firstDue("delay 0 - 1;", 0), -1);
        CHECK.is("DELAY 0: it came", firstDue("delay 0;", 0), -1);
        CHECK.is("DELAY 1", firstDue("delay 1;", 0), 1);
        CHECK.is("DELAY 59", firstDue("delay 59;", 0), 59);
        CHECK.is("DELAY 60", firstDue("delay 60;", 0), 60);
        CHECK.is("DELAY 61", firstDue("delay 61;", 0), 60);
        CHECK.is("the least DELAY, STALL 7", firstDue("delay 0 - 9999*9999;", 7), 7);
        CHECK.is("DELAY -1, STALL 7", firstDue("delay 0 - 1;", 7), 7);
        CHECK.is("DELAY 0, STALL 7", firstDue("delay 0;", 7), 7);
        CHECK.is("DELAY 1, STALL 7", firstDue("delay 1;", 7), 8);
        CHECK.is("DELAY 9999*9999", firstDue("delay 9999*9999;", 0), 60);
    }

    private static void delayWithout() {
        EDGES.sentence("7", "its DELAY is what DELAY gives (without it 3)");
        CHECK.is("without", firstDue("", 0), 3);
        CHECK.is("with one of 0", firstDue("delay 0;", 0), -1);
        CHECK.is("without, STALL 1", firstDue("", 1), 4);
    }

    private static void stallMore() {
        EDGES.sentence("7", "and STALL more");
        CHECK.is("STALL 1", firstDue("delay 60;", 1), 61);
        CHECK.is("STALL 29", firstDue("delay 60;", 29), 89);
        CHECK.is("STALL 30", firstDue("delay 60;", 30), 90);
        CHECK.is("STALL 30 of DELAY 61", firstDue("delay 61;", 30), 90);
    }

    private static void lossesTold() {
        EDGES.sentence("6, 14", "if LOSSES are told (one less then)");
        CircuitCells x = Texts.told(FILLING + "lost packet < 1;");
        x.lose(2);
        int[] left = {1, 0, 0, 0};
        int[] lost = {1, 2, 2, 2};
        for (int i = 0; i < 4; i++) {
            x.steps(1);
            CHECK.is("LOSSES behind packet " + i, x.set(9), left[i]);
            CHECK.is("lost behind packet " + i, x.count(3), lost[i]);
        }
    }

    private static void lostMoreThanNothing() {
        EDGES.sentence("5", "else if LOST gives more than 0");
        String[] rules = {"0 - 9999*9999", "0 - 1", "0", "1", "2", "9999*9999"};
        for (int i = 0; i < rules.length; i++) {
            CircuitCells x = Edges.after("size 1; target 64; lost " + rules[i] + ";", 1);
            CHECK.is("lost by " + rules[i], x.count(3), i < 3 ? 0 : 1);
            CHECK.is("in flight by " + rules[i], x.count(4), i < 3 ? 1 : 0);
        }
    }

    private static void fortyInFlight() {
        EDGES.sentence("5, 7", "else if 40 are in flight; else it is in flight");
        CircuitCells x = Edges.after("size 1; target 64; delay 60;", 39);
        CHECK.is("39 in flight", x.count(4), 39);
        CHECK.noElement("flying(39, 0)", () -> x.flying(39, 0));
        x.steps(1);
        CHECK.is("40 in flight", x.count(4), 40);
        CHECK.is("flying(39, 0)", x.flying(39, 0), 39);
        CHECK.is("lost", x.count(3), 0);
        x.steps(1);
        CHECK.is("the 41st: 40 in flight", x.count(4), 40);
        CHECK.is("lost", x.count(3), 1);
        CHECK.noElement("flying(40, 0)", () -> x.flying(40, 0));
        // Packet 60 is sent ahead of packet 0's coming at TIME 60, packet 61 behind it.
        x.steps(20);
        CHECK.is("lost behind TIME 60", x.count(3), 21);
        CHECK.is("in flight", x.count(4), 39);
        x.steps(1);
        CHECK.is("lost behind TIME 61", x.count(3), 21);
        CHECK.is("packet 61 is in flight", x.flying(38, 0), 61);
    }

    private static void stamped() {
        EDGES.sentence("7", "STAMPED with TIME MOD 256");
        CircuitCells x = Edges.after("size 1; target 64; delay 60; lost packet < 254;", 258);
        int[] due = {254, 255, 0, 1};
        for (int i = 0; i < due.length; i++) {
            CHECK.is("which", x.flying(i, 0), 254 + i);
            CHECK.is("STAMP at TIME " + (254 + i), x.flying(i, 2), due[i]);
            CHECK.is("DUE", x.flying(i, 1), 254 + i + 60);
        }
        CircuitCells y = Edges.after("size 1; target 64; delay 60; lost packet < 511;", 513);
        CHECK.is("STAMP at TIME 511", y.flying(0, 2), 255);
        CHECK.is("STAMP at TIME 512", y.flying(1, 2), 0);
        CHECK.is("STAMP at TIME 0", Edges.after("size 1; target 64;", 1).flying(0, 2), 0);
    }

    private static void numbered() {
        EDGES.sentence("6, 8", "PACKET p has the number p MOD 64");
        for (int p : new int[] {0, 1, 62, 63, 64, 65, 127, 128}) {
            CircuitCells x = Edges.after("size 2; target 64; delay 0; lost packet < " + p + ";", 2 * p + 2);
            CHECK.is("slot() of packet " + p, x.slot(p % 64), p);
            CHECK.is("PLACE of packet " + p, x.set(13), 2 * (p % 64));
            CHECK.is("slot() behind it", x.slot((p + 1) % 64), -1);
            CHECK.is("slot() ahead of it", x.slot((p + 63) % 64), -1);
        }
    }

    private static void lastOfLostOnes() {
        EDGES.sentence("7", "('last' is its DELAY all the same)");
        CircuitCells x = Edges.after("size 1; target 64; delay 20 + last; lost packet = 0;", 2);
        CHECK.is("by LOST", x.flying(0, 1), 1 + 40);
        CircuitCells y = Texts.told("size 1; target 64; delay 20 + last;");
        y.lose(1);
        y.steps(2);
        CHECK.is("by LOSSES", y.flying(0, 1), 1 + 40);
        // Packets 40 to 60 are lost, 40 being in flight; the next one is 61.
        CircuitCells z = Edges.after("size 1; target 64; delay 60 - 50*(packet = 60) - 40*(packet = 61 and last = 10);", 62);
        CHECK.is("by 40 in flight", z.flying(38, 1), 61 + 20);
    }

    private static void dueAtTime() {
        EDGES.sentence("5", "Each PACKET in flight that is DUE at TIME or ahead of it COMES");
        CircuitCells x = Edges.after("size 1; target 64; delay 5; lost 0 < packet;", 5);
        CHECK.is("TIME 4, DUE 5: in flight", x.count(4), 1);
        CHECK.is("IDLE", x.count(10), 0);
        x.steps(1);
        CHECK.is("TIME 5, DUE 5: it comes", x.count(4), 0);
        CHECK.is("FILLING", x.count(10), 1);
        CHECK.is("slot(0)", x.slot(0), 0);
        CHECK.is("sent and come on one STEP", Edges.after(FILLING, 1).count(9), 1);
    }

    private static void orderOfComing() {
        EDGES.sentence("5", "COMES, in the order in which they were SENT");
        CircuitCells x = Edges.after("size 1; target 64; delay 2 - packet; lost 2 < packet;", 3);
        CHECK.is("three at TIME 2: all are PUT", x.count(9), 3);
        CHECK.is("none LATE", x.count(5), 0);
        CHECK.is("FIRST is packet 0", x.set(13), 0);
        CHECK.is("slot(0)", x.slot(0), 0);
        CircuitCells y = Edges.after("size 1; target 64; delay 3 * (packet < 1); lost 2 < packet;", 4);
        CHECK.is("packet 1 ahead of 0: PLACE", y.set(13), 1);
        CHECK.is("packet 0 is LATE", y.count(5), 1);
    }

    private static void ifIdle() {
        EDGES.sentence("5, 6", "if IDLE, PLACE (the near end's next OCTET) is SIZE times its number, it is FILLING, it is FIRST, AGE and SPREAD are 0");
        for (int p : new int[] {0, 63, 64}) {
            CircuitCells x = Edges.after("size 8; target 64; delay 0; lost packet < " + p + ";", 8 * p + 7);
            CHECK.is("IDLE ahead of packet " + p, x.count(10), 0);
            x.steps(1);
            CHECK.is("FILLING", x.count(10), 1);
            CHECK.is("PLACE of packet " + p, x.set(13), 8 * (p % 64));
            CHECK.is("LEVEL", x.count(9), 8);
            CHECK.is("REGAINED: AGE 0", x.count(13), 10000);
            x.steps(8);
            CHECK.is("FILLING: PLACE stays", x.set(13), 8 * (p % 64));
            CHECK.is("REGAINED: 8 OCTETS in 8 STEPS", x.count(13), 0);
        }
        // Packets 0 to 2 are PLAYED, 64 lost ones behind them are a RESET; 70 is FIRST then, and 71 the one behind it.
        CircuitCells y = Edges.after(PLAIN + "lost 2 < packet and packet < 70;", 67);
        CHECK.is("RESETS", y.count(14), 1);
        CHECK.is("REGAINED, IDLE", y.count(13), 10000);
        y.turn(2, 3);
        y.steps(3);
        CHECK.is("IDLE", y.count(10), 0);
        y.steps(1);
        CHECK.is("FILLING", y.count(10), 1);
        CHECK.is("PLACE", y.set(13), 6);
        CHECK.is("REGAINED: AGE 0", y.count(13), 10000);
        y.steps(1);
        CHECK.is("REGAINED", y.count(13), 0);
    }

    /** What becomes of a PACKET that comes so many numbers behind FIRST, PLACE being that of FIRST. */
    private static void aheadIs(int first, int more, int late, int beyond) {
        CircuitCells x = Edges.after(FILLING + "lost not (packet = " + first + " or packet = " + (first + more) + ");", first + more + 1);
        String what = " of packet " + (first + more) + " behind " + first;
        CHECK.is("LATE" + what, x.count(5), late);
        CHECK.is("BEYOND" + what, x.count(6), beyond);
        boolean isPut = late + beyond == 0;
        CHECK.is("LEVEL" + what, x.count(9), isPut ? more % 64 + 1 : 1);
        CHECK.is("slot()" + what, x.slot((first + more) % 64), isPut ? first + more : more % 64 == 0 ? first : -1);
        CHECK.is("in flight" + what, x.count(4), 0);
    }

    private static void ahead() {
        EDGES.sentence("5, 8", "MOD 64, less 64, if it is 32 or more. Below 0 it is LATE, 16 or more it is BEYOND: dropped both");
        for (int first : new int[] {0, 1, 31, 32, 48, 49, 63, 64, 100}) {
            for (int more : new int[] {1, 14, 15, 64, 65, 79}) {
                aheadIs(first, more, 0, 0);
            }
            for (int more : new int[] {16, 17, 31, 80, 95}) {
                aheadIs(first, more, 0, 1);
            }
            for (int more : new int[] {32, 33, 62, 63, 96, 127}) {
                aheadIs(first, more, 1, 0);
            }
        }
    }

    private static void aheadWithinAPacket() {
        EDGES.sentence("5, 9", "for a spot (PLACE by SIZE, cut down, and AHEAD)");
        // OCTETS 4 to 7 are packet 1's, and due from TIME 7 on.
        for (int late = 0; late <= 5; late++) {
            CircuitCells x = Edges.after("size 4; target 4; delay " + late + "*(packet = 1); gain 0 0; lost 1 < packet;", 11);
            int filled = Math.min(late, 4);
            CHECK.is("FILLED, " + late + " STEPS late", x.count(8), filled);
            for (int i = 0; i < 4; i++) {
                CHECK.is("FILLED or not, OCTET " + (4 + i), x.played(3 - i, 1), i < filled ? 1 : 0);
                CHECK.is("OCTET " + (4 + i), x.played(3 - i, 0), i < filled ? 88 : 85 + 4 + i);
            }
            x.steps(2);
            CHECK.is("PLACE by SIZE is above: LATE", x.count(5), late < 4 ? 0 : 1);
        }
    }

    private static void insteadOfWhatIsThere() {
        EDGES.sentence("8", "PUT into the SLOT of its number, for a spot (PLACE by SIZE, cut down, and AHEAD), instead of what is there");
        CircuitCells x = Edges.after(FILLING + "word 0 0 0;", 64);
        CHECK.is("slot(0)", x.slot(0), 0);
        x.steps(1);
        CHECK.is("slot(0)", x.slot(0), 64);
        x.steps(15);
        CHECK.is("slot(15)", x.slot(15), 79);
        x.steps(1);
        CHECK.is("slot(16)", x.slot(16), -1);
        CHECK.is("LEVEL", x.count(9), 16);
        x.turn(2, 16);
        x.steps(1);
        CHECK.is("its OCTET is PLAYED", x.played(0, 0), 64);
    }

    private static void aboveAll() {
        EDGES.sentence("5", "By each that is PUT for a spot above all those PUT since FIRST (it, too)");
        // Packet 5 comes at TIME 5, 3 at TIME 9, and 69, for the spot of 5, at TIME 69.
        CircuitCells x = Edges.after("size 1; target 64; delay 6*(packet = 3); lost not (packet = 0 or packet = 3 or packet = 5 or packet = 69);", 5);
        CHECK.is("FIRST alone", x.count(13), 10000);
        x.steps(1);
        CHECK.is("5 above it in 5 STEPS", x.count(13), 0);
        x.steps(4);
        CHECK.is("slot(3)", x.slot(3), 3);
        CHECK.is("a spot below", x.count(13), 0);
        Edges.go(x, 60);
        CHECK.is("slot(5)", x.slot(5), 69);
        CHECK.is("the same spot", x.count(13), 0);
        // Packet 1 is sent at TIME 1, packet 2 at TIME 2, 30 STEPS of DELAY for the former.
        CircuitCells y = Edges.after("size 1; target 64; delay 30*(packet = 1); offset 99; lost not (packet < 3);", 3);
        CHECK.is("2 above it in 2 STEPS", y.count(13), 0);
        Edges.go(y, 40);
        CHECK.is("a spot below, late", y.count(13), 0);
        // A dropped one counts for nothing: packet 16 is BEYOND.
        CircuitCells z = Edges.after(FILLING + "lost not (packet = 0 or packet = 16 or packet = 15);", 16);
        CHECK.is("15 above it in 15 STEPS", z.count(13), 0);
        z.turn(0, -99);
        z.steps(3);
        CHECK.is("BEYOND", z.count(6), 1);
        CHECK.is("and no more", z.count(13), 0);
    }

    private static void ageMod256() {
        EDGES.sentence("5", "AGE is more by its STAMP less that of the one that was highest till then, MOD 256");
        String text = "size 1; target 64; delay 0; lost packet < 255 or packet = 256 or 258 < packet;";
        CircuitCells x = Edges.after(text, 258);
        CHECK.is("STAMPS 255 and 1: 2 OCTETS in 2 STEPS", x.count(13), 0);
        x.steps(1);
        CHECK.is("and 2: 3 OCTETS in 3 STEPS", x.count(13), 0);
        CircuitCells y = Edges.after(FILLING + "lost not (packet = 0 or packet = 257);", 258);
        CHECK.is("257 STEPS are 1: 1 OCTET by 1", y.count(13), 0);
        CircuitCells z = Edges.after(FILLING + "lost packet - packet/65*65;", 66);
        CHECK.is("65 STEPS: 1 OCTET by 65", z.count(13), 1000 / 65 - 1000);
        Edges.go(z, 195);
        CHECK.is("four times 65 STEPS: 4 OCTETS by 260", z.count(13), 4000 / 260 - 1000);
    }

    private static void level() {
        EDGES.sentence("5", "LEVEL: OCTETS from PLACE up to the end of the highest spot, that of PLACE or above, for which a PACKET lies in a SLOT");
        CircuitCells x = Edges.after("size 4; target 12; delay 0; gain 0 0; lost packet = 1 or 2 < packet;", 4);
        CHECK.is("one PACKET", x.count(9), 4);
        x.steps(4);
        CHECK.is("packet 1 is lost", x.count(9), 4);
        x.steps(3);
        CHECK.is("ahead of packet 2", x.count(9), 4);
        x.steps(1);
        CHECK.is("packet 2, one PLAYED", x.count(9), 12 - 1);
        Edges.go(x, 7);
        CHECK.is("PLACE 8, the highest spot is that of PLACE", x.count(9), 4);
        x.steps(3);
        CHECK.is("PLACE 11, its last OCTET", x.count(9), 1);
        CHECK.is("slot(2)", x.slot(2), 2);
        x.steps(1);
        CHECK.is("PLACE 12, none", x.count(9), 0);
        CHECK.is("slot(2)", x.slot(2), -1);
    }

    private static void levelIsZero() {
        EDGES.sentence("5", "(0 without; IDLE 0)");
        CHECK.is("IDLE", new CircuitCells().count(9), 0);
        CircuitCells x = Edges.after(PLAIN + "lost 0 < packet;", 1);
        CHECK.is("all PLAYED", x.count(9), 0);
        x.steps(1);
        CHECK.is("PLACE is one above", x.count(9), 0);
        Edges.go(x, 62);
        CHECK.is("PLACE is 63 above", x.count(9), 0);
        CHECK.is("PLAYING", x.count(10), 2);
        // At the RESET of TIME 127, packets 16 to 23 lie in SLOTS.
        CircuitCells y = Edges.after("size 8; target 64; delay 0; gain 0 0; lost 7 < packet and packet < 16;", 190);
        CHECK.is("LEVEL", y.count(9), 8 * 7 + 1);
        y.steps(1);
        CHECK.is("IDLE", y.count(10), 0);
        CHECK.is("IDLE", y.count(9), 0);
    }

    private static void targetOrMore() {
        EDGES.sentence("5", "If FILLING, and LEVEL is TARGET or more, it is PLAYING");
        for (int target : new int[] {1, 2, 15, 16}) {
            CircuitCells x = Edges.after("size 1; delay 0; target " + target + ";", target - 1);
            CHECK.is("LEVEL of TARGET less 1", x.count(10), target == 1 ? 0 : 1);
            x.steps(1);
            CHECK.is("LEVEL of TARGET", x.count(10), 2);
        }
        CircuitCells x = Edges.after("size 4; delay 0; target 3;", 4);
        CHECK.is("LEVEL of TARGET and 1", x.count(10), 2);
        CircuitCells y = Edges.after("size 4; delay 0; target 64;", 23);
        CHECK.is("LEVEL 20", y.count(9), 20);
        y.turn(2, 21);
        y.undo();
        y.turn(2, 25);
        y.steps(1);
        CHECK.is("LEVEL 24, TARGET 25", y.count(10), 1);
        y.turn(2, 24);
        y.steps(1);
        CHECK.is("LEVEL 24, TARGET 24", y.count(10), 2);
        CHECK.is("PLAYED", y.count(7), 1);
    }

    private static void clearedAtPlaying() {
        EDGES.sentence("5, 6", "it is PLAYING, the near PHASE, INTEGRAL, CONTROL, ERROR are 0");
        // It PLAYS at TIME 0, is RESET at TIME 64, and PLAYS again at TIME 70; EVERY 16.
        CircuitCells x = Edges.after("size 1; target 1; delay 0; gain 9 9; every 16; offset 0; lost 0 < packet and packet < 70;", 70);
        CHECK.is("IDLE", x.count(10), 0);
        CHECK.is("INTEGRAL is what it was", x.count(12) < 0, true);
        CHECK.is("CONTROL is what it was", x.count(11) < 0, true);
        CHECK.is("near PHASE is what it was", x.set(12) != 0, true);
        CHECK.is("ERROR is what it was", x.set(14) != 0, true);
        x.steps(5);
        CHECK.is("PLAYING", x.count(10), 2);
        CHECK.is("INTEGRAL", x.count(12), 0);
        CHECK.is("CONTROL", x.count(11), 0);
        CHECK.is("near PHASE", x.set(12), 0);
        CHECK.is("ERROR", x.set(14), 0);
    }

    private static void timeModEvery() {
        EDGES.sentence("5, 11", "If PLAYING, and TIME MOD EVERY is 0");
        for (int every : new int[] {1, 2, 3, 15, 16}) {
            CircuitCells x = Edges.after("size 1; target 1; delay 0; gain 0 0; every " + every + ";", 1);
            CHECK.is("SAMPLES by TIME 0", x.count(16), 1);
            Edges.go(x, every - 1);
            CHECK.is("SAMPLES by TIME EVERY less 1", x.count(16), 1);
            x.steps(1);
            CHECK.is("SAMPLES by TIME EVERY", x.count(16), 2);
            Edges.go(x, every - 1);
            CHECK.is("SAMPLES by twice EVERY less 1", x.count(16), 2);
            x.steps(1);
            CHECK.is("SAMPLES by twice EVERY", x.count(16), 3);
        }
        CircuitCells y = Edges.after("size 1; target 7; delay 0; every 3;", 6);
        CHECK.is("FILLING: none", y.count(16), 0);
        y.steps(1);
        CHECK.is("it PLAYS at TIME 6", y.count(16), 1);
    }

    /** A STEP by which LEVEL less TARGET is e; no PACKET may come on it. */
    private static void steer(CircuitCells x, int e) {
        int target = x.count(9) - e;
        if (x.set(1) != target) {
            CHECK.is("turn(2, " + target + ") is done", x.turn(2, target) != 10000, true);
        }
        x.steps(1);
    }

    private static void steerUpTo(CircuitCells x, int gain, int integral) {
        for (int i = 0; i < 64 && x.count(12) < integral; i++) {
            steer(x, Math.min(x.count(9) - 1, (integral - x.count(12)) / gain));
        }
        CHECK.is("INTEGRAL to begin with", x.count(12), integral);
    }

    private static void mostIntegral() {
        EDGES.sentence("5", "INTEGRAL is more by I times e, kept to -3200 to 3200");
        CircuitCells x = Edges.after(DRAINS + "gain 0 2;", 64);
        steerUpTo(x, 2, 3196);
        steer(x, 1);
        CHECK.is("INTEGRAL 3198", x.count(12), 3198);
        steer(x, 1);
        CHECK.is("INTEGRAL 3200", x.count(12), 3200);
        steer(x, 1);
        CHECK.is("INTEGRAL 3202", x.count(12), 3200);
        steer(x, -1);
        CHECK.is("and less again", x.count(12), 3198);
        CircuitCells y = Edges.after(DRAINS + "gain 0 9;", 64);
        steerUpTo(y, 9, 3195);
        steer(y, 1);
        CHECK.is("INTEGRAL 3204", y.count(12), 3200);
    }

    /** So many STEPS with LEVEL 0 and TARGET 64. */
    private static CircuitCells starved(String gain, int steps) {
        CircuitCells x = Edges.after("size 1; target 1; delay 0; every 1; lost 0 < packet; gain " + gain + ";", 1);
        x.turn(2, 64);
        x.steps(steps);
        return x;
    }

    private static void leastIntegral() {
        EDGES.sentence("5", "kept to -3200 to 3200");
        CircuitCells x = starved("0 1", 49);
        CHECK.is("49 times -64", x.count(12), -3136);
        x.turn(2, 63);
        x.steps(1);
        CHECK.is("INTEGRAL -3199", x.count(12), -3199);
        x.turn(2, 1);
        x.steps(1);
        CHECK.is("INTEGRAL -3200", x.count(12), -3200);
        x.steps(1);
        CHECK.is("INTEGRAL -3201", x.count(12), -3200);
        CHECK.is("INTEGRAL -3264", starved("0 1", 50).count(12), -3200);
        CHECK.is("PLAYING", x.count(10), 2);
    }

    private static void controlCutDown() {
        EDGES.sentence("5", "CONTROL is P times e, and INTEGRAL, by 16, cut down to 0");
        int[][] up = {{0, 0}, {1, 0}, {15, 0}, {16, 1}, {17, 1}, {31, 1}, {32, 2}};
        for (int[] row : up) {
            CircuitCells x = Edges.after(DRAINS + "gain 1 0;", 64);
            steer(x, row[0]);
            CHECK.is("CONTROL by e " + row[0], x.count(11), row[1]);
        }
        for (int[] row : up) {
            CircuitCells x = Edges.after(DRAINS + "gain 1 0;", 64 + 35);
            steer(x, -row[0]);
            CHECK.is("CONTROL by e -" + row[0], x.count(11), -row[1]);
        }
        CircuitCells y = Edges.after(DRAINS + "gain 9 9;", 64);
        CHECK.is("e is 0", y.count(11) * 10000 + y.count(12), 0);
        steer(y, 10);
        CHECK.is("90 and 90 by 16", y.count(11), 11);
        steer(y, -1);
        CHECK.is("-9 and 81 by 16", y.count(11), 4);
    }

    private static void mostControl() {
        EDGES.sentence("5", "by 16, cut down to 0, kept to -200 to 200");
        int[][] due = {{0, 3180, 198}, {1, 3182 + 9, 199}, {2, 3184 + 18, 200}, {3, 3186 + 27, 200}, {4, 3188 + 36, 200}};
        for (int[] row : due) {
            CircuitCells x = Edges.after(DRAINS + "gain 9 2;", 64);
            steerUpTo(x, 2, 3180);
            steer(x, row[0]);
            CHECK.is("CONTROL of " + row[1] + " by 16", x.count(11), row[2]);
        }
        CircuitCells y = Edges.after(DRAINS + "gain 0 2;", 64);
        steerUpTo(y, 2, 3182);
        CHECK.is("CONTROL of 3182 by 16", y.count(11), 198);
        steer(y, 1);
        CHECK.is("CONTROL of 3184 by 16", y.count(11), 199);
    }

    private static void leastControl() {
        EDGES.sentence("5", "kept to -200 to 200");
        int[][] due = {{1, -196}, {5, -199}, {6, -199}, {7, -200}, {8, -200}, {9, -200}, {64, -200}};
        for (int[] row : due) {
            CircuitCells x = starved("9 1", 49);
            CHECK.is("INTEGRAL", x.count(12), -3136);
            if (row[0] < 64) {
                x.turn(2, row[0]);
            }
            x.steps(1);
            CHECK.is("CONTROL of " + (-3136 - 10 * row[0]) + " by 16", x.count(11), row[1]);
        }
    }

    private static void latestSamples() {
        EDGES.sentence("11", "ERROR is a SAMPLE (the latest 128 are kept)");
        CircuitCells x = Edges.after(PLAIN + "every 1; offset 1;", 127);
        CHECK.is("127 are kept", x.count(16), 127);
        CHECK.is("the latest", x.sample(126), 126);
        CHECK.noElement("sample(127)", () -> x.sample(127));
        x.steps(1);
        CHECK.is("128 are kept", x.count(16), 128);
        CHECK.is("the earliest", x.sample(0), 0);
        CHECK.is("the latest", x.sample(127), 127);
        x.steps(1);
        CHECK.is("of 129, 128 are kept", x.count(16), 128);
        CHECK.is("the earliest", x.sample(0), 1);
        CHECK.is("the latest", x.sample(127), 128);
        CHECK.noElement("sample(128)", () -> x.sample(128));
    }

    /** PLAYS, near PHASE 0, LEVEL 43. */
    private static CircuitCells calm() {
        CircuitCells x = Edges.after(DRAINS + "gain 1 0;", 64);
        for (int i = 0; i < 20; i++) {
            steer(x, 0);
        }
        CHECK.is("near PHASE", x.set(12), 0);
        CHECK.is("PLAYED", x.count(7), 21);
        return x;
    }

    private static void nearPhase() {
        EDGES.sentence("6, 9", "as often as PHASE is 1000 or more, it is 1000 less, and an OCTET is PLAYED");
        int[][] due = {{-16, 21, 999}, {0, 22, 0}, {16, 22, 1}};
        for (int[] row : due) {
            CircuitCells x = calm();
            steer(x, row[0]);
            CHECK.is("CONTROL", x.count(11), row[0] / 16);
            CHECK.is("PLAYED by PHASE " + (1000 + row[0] / 16), x.count(7), row[1]);
            CHECK.is("near PHASE", x.set(12), row[2]);
        }
    }

    private static void twoPlayed() {
        EDGES.sentence("6, 9", "as often as PHASE is 1000 or more");
        int[][] due = {{-16, 22, 998}, {0, 22, 999}, {16, 23, 0}, {32, 23, 1}};
        for (int[] row : due) {
            CircuitCells x = calm();
            steer(x, -16);
            CHECK.is("near PHASE", x.set(12), 999);
            steer(x, row[0]);
            CHECK.is("PLAYED by PHASE " + (1999 + row[0] / 16), x.count(7), row[1]);
            CHECK.is("near PHASE", x.set(12), row[2]);
            CHECK.is("the OCTET", x.played(0, 0), 85 + row[1] - 1);
        }
    }

    private static void errorOfPlaying() {
        EDGES.sentence("6", "If PLAYING: the near PHASE is 1000 and CONTROL more, ERROR is more by OFFSET less CONTROL");
        CircuitCells x = Edges.after("size 1; target 3; delay 0; gain 0 0; offset -7;", 3);
        CHECK.is("FILLING", x.count(10), 1);
        CHECK.is("ERROR", x.set(14), 0);
        CHECK.is("near PHASE", x.set(12), 0);
        x.steps(1);
        CHECK.is("PLAYING", x.count(10), 2);
        CHECK.is("ERROR", x.set(14), -7);
        CHECK.is("PLAYED", x.count(7), 1);
        CircuitCells y = calm();
        int was = y.set(14);
        steer(y, -16);
        CHECK.is("by CONTROL -1", y.set(14) - was, 1);
        steer(y, 16);
        CHECK.is("by CONTROL 1", y.set(14) - was, 0);
    }

    /** The OCTET PLAYED last, FILLED behind so many that were PLAYED. */
    private static int filledBehind(int many, int fill, int frame) {
        CircuitCells x = Texts.told(PLAIN + "frame " + frame + "; lost packet = " + many + ";");
        if (fill > 0) {
            x.turn(1, fill);
        }
        Edges.go(x, many + 1);
        CHECK.is("PLAYED", x.count(7), many + 1);
        CHECK.is("FILLED", x.played(0, 1), 1);
        CHECK.is("the one ahead, not FILLED", x.played(1, 1), 0);
        return x.played(0, 0);
    }

    private static void fillByTheLatest() {
        // None ever can't be by FILL 0: the first OCTET PLAYED is one of FIRST, which lies in its SLOT.
        EDGES.sentence("9", "by FILL 0 the latest one PLAYED");
        CHECK.is("behind 1", filledBehind(1, 0, 8), 85);
        CHECK.is("behind 2", filledBehind(2, 0, 8), 86);
        CHECK.is("behind 200", filledBehind(200, 0, 1), (85 + 199) % 256);
        CircuitCells x = Edges.after(PLAIN + "lost 2 < packet and packet < 6;", 7);
        for (int i = 1; i < 4; i++) {
            CHECK.is("each of three", x.played(i, 0), 87);
        }
        CHECK.is("none are FILLED ahead of FIRST", Edges.after(PLAIN + "lost packet < 9;", 10).count(8), 0);
    }

    private static void fillByIdle() {
        EDGES.sentence("9", "by 1 it is 126");
        CHECK.is("behind 1", filledBehind(1, 1, 1), 126);
        CHECK.is("behind 9", filledBehind(9, 1, 8), 126);
    }

    private static void fillByFrame() {
        EDGES.sentence("9", "by 2 the one PLAYED FRAME ones ahead (none ever: 126)");
        for (int frame = 1; frame <= 8; frame++) {
            if (frame > 1) {
                CHECK.is("FRAME less 1 were PLAYED", filledBehind(frame - 1, 2, frame), 126);
            }
            CHECK.is("FRAME were PLAYED", filledBehind(frame, 2, frame), 85);
            CHECK.is("FRAME and 1 were PLAYED", filledBehind(frame + 1, 2, frame), 86);
        }
        CHECK.is("200 were PLAYED", filledBehind(200, 2, 8), (85 + 192) % 256);
        CircuitCells x = Texts.told(PLAIN + "frame 2; lost 0 < packet;");
        x.turn(1, 2);
        x.steps(5);
        int[] due = {85, 126, 85, 126, 85};
        for (int i = 0; i < due.length; i++) {
            CHECK.is("FILLED ones are PLAYED ones", x.played(4 - i, 0), due[i]);
        }
    }

    private static void filledInARow() {
        EDGES.sentence("5", "If 64 were FILLED in a row, it is IDLE (a RESET");
        CircuitCells x = Edges.after(PLAIN + "lost 0 < packet;", 64);
        CHECK.is("63: FILLED", x.count(8), 63);
        CHECK.is("63: PLAYING", x.count(10), 2);
        CHECK.is("63: RESETS", x.count(14), 0);
        x.steps(1);
        CHECK.is("64: FILLED", x.count(8), 64);
        CHECK.is("64: IDLE", x.count(10), 0);
        CHECK.is("64: RESETS", x.count(14), 1);
        x.steps(1);
        CHECK.is("no 65th", x.count(8), 64);
        CircuitCells y = Edges.after(PLAIN + "lost not (packet = 0 or packet = 64 or packet = 128);", 129);
        CHECK.is("63, one, 63 and one: FILLED", y.count(8), 126);
        CHECK.is("PLAYED", y.count(7), 129);
        CHECK.is("RESETS", y.count(14), 0);
        Edges.go(y, 63);
        CHECK.is("63 more: RESETS", y.count(14), 0);
        y.steps(1);
        CHECK.is("64 more: RESETS", y.count(14), 1);
        // Again 64 behind a RESET: packet 70 is PLAYED at TIME 70.
        CircuitCells z = Edges.after(PLAIN + "lost not (packet = 0 or packet = 70);", 134);
        CHECK.is("RESETS", z.count(14), 1);
        CHECK.is("FILLED", z.count(8), 64 + 63);
        z.steps(1);
        CHECK.is("RESETS", z.count(14), 2);
    }

    private static void restOfTheStep() {
        EDGES.sentence("5, 6", "the rest of this STEP's are not PLAYED; what else there is stays");
        // LEVEL 63 and TARGET 1 leave a CONTROL above 0, by which now and then two are PLAYED: the 64th FILLED is the first of two.
        CircuitCells x = Edges.after("size 8; target 64; delay 0; gain 0 2; every 16; lost 7 < packet;", 64);
        x.turn(2, 1);
        Edges.go(x, 125);
        CHECK.is("PLAYED: 64, and 63 FILLED", x.count(7), 127);
        CHECK.is("FILLED", x.count(8), 63);
        int phase = x.set(12);
        int control = x.count(11);
        int integral = x.count(12);
        int error = x.set(14);
        CHECK.is("two are due", phase + control >= 1000, true);
        x.steps(1);
        CHECK.is("one is PLAYED", x.count(7), 128);
        CHECK.is("IDLE", x.count(10), 0);
        CHECK.is("near PHASE is but once 1000 less", x.set(12), phase + control);
        CHECK.is("CONTROL stays", x.count(11), control);
        CHECK.is("INTEGRAL stays", x.count(12), integral);
        CHECK.is("ERROR", x.set(14), error - control);
        x.steps(20);
        CHECK.is("IDLE: near PHASE stays", x.set(12), phase + control);
        CHECK.is("IDLE: PLAYED", x.count(7), 128);
        CHECK.is("IDLE: CONTROL, INTEGRAL", x.count(11) * 10000 + x.count(12), control * 10000 + integral);
    }

    private static void slotsAreEmpty() {
        EDGES.sentence("5, 6, 8", "SLOTS are empty, the rest of this STEP's are not PLAYED; what else there is stays");
        CircuitCells x = Edges.after("size 8; target 64; delay 0; gain 0 0; lost 7 < packet and packet < 16;", 190);
        for (int i = 16; i < 23; i++) {
            CHECK.is("slot(" + i + ") ahead of it", x.slot(i), i);
        }
        int samples = x.count(16);
        x.steps(1);
        CHECK.is("IDLE", x.count(10), 0);
        for (int i = 0; i < 64; i++) {
            CHECK.is("slot(" + i + ")", x.slot(i), -1);
        }
        CHECK.is("PLACE", x.set(13), 128);
        CHECK.is("SAMPLES", x.count(16), samples);
        CHECK.is("lost", x.count(3), 8);
        CHECK.is("WRONG", x.count(15), 0);
        CHECK.is("the latest OCTET, as OCTET 63", x.played(0, 0), 85 + 63);
        x.steps(8);
        CHECK.is("packet 23 is FIRST", x.slot(23), 23);
        CHECK.is("PLACE", x.set(13), 8 * 23);
    }

    /** ACTS of all kinds, no two of one kind alike. */
    private static CircuitCells acted(int many) {
        CircuitCells x = Texts.told("offset -9; target 20;");
        for (int i = 0; i < many; i++) {
            switch (i % 6) {
                case 0: x.turn(0, i); break;
                case 1: x.lose(1 + i % 19); break;
                case 2: x.stall(1 + i % 29); break;
                case 3: x.turn(1, 1 + i / 6 % 2); break;
                case 4: x.turn(2, 1 + i); break;
                default: x.steps(1 + i % 3); break;
            }
        }
        CHECK.is("none was refused", x.count(21), 0);
        return x;
    }

    private static void fortyActs() {
        EDGES.sentence("17", "ACTS (at most 40 are kept, the latest ones");
        for (int many : new int[] {0, 1, 39, 40, 41, 42, 45, 46, 47, 60}) {
            CircuitCells x = acted(many);
            int kept = Math.min(many, 40);
            CHECK.is("ACTS of " + many, x.count(17), kept);
            for (int i = kept - 1; i >= 0; i--) {
                CHECK.is("undo() of " + many, x.undo(), i);
                EDGES.turnedAlike(many + " ACTS, " + i + " of those kept are left", x, acted(many - kept + i));
            }
            CHECK.is("undo() of none", x.undo(), -1);
            CHECK.is("far PHASE", x.set(11), acted(many - kept).set(11));
        }
    }

    private static void undoneWithAll() {
        EDGES.sentence("17", "They are UNDONE");
        CircuitCells x = Edges.rich();
        Edges.go(x, 350);
        CircuitCells due = Edges.rich();
        for (int count : new int[] {5, 6, 7, 8, 14, 15, 16}) {
            CHECK.is("count(" + count + ") is more", x.count(count) > due.count(count), true);
        }
        for (int i = 0; i < 7; i++) {
            x.undo();
        }
        EDGES.unchanged("350 STEPS undone", x, due, -1);
        // The same behind ACTS that are kept no longer.
        CircuitCells y = Edges.rich();
        Edges.go(y, 350);
        for (int i = 0; i < 36; i++) {
            y.steps(1);
        }
        CHECK.is("ACTS", y.count(17), 40);
        for (int i = 0; i < 40; i++) {
            y.undo();
        }
        CircuitCells z = Edges.rich();
        Edges.go(z, 150);
        EDGES.shows("ACTS 8 and on undone", y, z);
        y.steps(20);
        z.steps(20);
        EDGES.shows("ACTS 8 and on undone, and 20 STEPS", y, z);
    }

    private static void actsThatChangeNothing() {
        EDGES.sentence("14, 15, 16, 17", "what its call doesn't refuse is one, also where all is as it was");
        CircuitCells x = new CircuitCells();
        x.turn(0, 5);
        x.turn(0, 0);
        CHECK.is("ACTS", x.count(17), 2);
        x.turn(1, 1);
        x.turn(1, 0);
        x.turn(2, 13);
        x.turn(2, 12);
        x.lose(1);
        x.lose(0);
        x.stall(1);
        x.stall(0);
        CHECK.is("ACTS", x.count(17), 10);
        x.stall(0);
        x.lose(0);
        x.turn(0, 0);
        x.turn(1, 0);
        x.turn(2, 12);
        CHECK.is("refused ones are none", x.count(17), 10);
        CHECK.is("STATUS 1", x.count(21), 5);
        CHECK.is("undo()", x.undo(), 9);
        CHECK.is("STALL", x.set(10), 1);
    }

    private static void inPlaceOfWhatIsLeft() {
        EDGES.sentence("14", "LOSSES are told (0 to 20, in place of what is left)");
        CircuitCells x = Texts.told(FILLING);
        CHECK.is("lose(5)", x.lose(5), 0);
        x.steps(2);
        EDGES.refused("lose(3), it is so", () -> left3(), y -> y.lose(3), -1, 1);
        CHECK.is("lose(5), 3 being left", x.lose(5), 3);
        CHECK.is("LOSSES", x.set(9), 5);
        x.steps(6);
        CHECK.is("lost", x.count(3), 7);
        CHECK.is("lose(0), none being left: refused", x.lose(0), -1);
        CHECK.is("lose(1)", x.lose(1), 0);
        CHECK.is("lose(0)", x.lose(0), 1);
        x.steps(1);
        CHECK.is("lost", x.count(3), 7);
    }

    private static CircuitCells left3() {
        CircuitCells x = Texts.told(FILLING);
        x.lose(5);
        x.steps(2);
        return x;
    }

    private static void lastOneFirst() {
        EDGES.sentence("17", "They are UNDONE, the last one first");
        CircuitCells x = Texts.told(FILLING);
        x.steps(3);
        x.lose(2);
        x.stall(4);
        x.turn(0, 9);
        x.turn(1, 2);
        x.turn(2, 5);
        x.steps(1);
        // What is left, what set() it is of (-1: the TIME), as it was.
        int[][] due = {{6, -1, 3}, {5, 1, 64}, {4, 8, 0}, {3, 5, 0}, {2, 10, 0}, {1, 9, 0}, {0, -1, 0}};
        for (int[] row : due) {
            CHECK.is("undo()", x.undo(), row[0]);
            CHECK.is("as it was ahead of ACT " + row[0], row[1] < 0 ? x.count(0) : x.set(row[1]), row[2]);
        }
        CHECK.is("undo()", x.undo(), -1);
    }
}
