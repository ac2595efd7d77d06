import java.util.ArrayList;
import java.util.List;
import java.util.TreeSet;

/** The boundary cases that part 3 of the Terms and promises 18 to 30 name, a test for each sentence. */
public final class EdgesOfQuestionsTest {
    private static final Edges EDGES = new Edges();
    private static final Check CHECK = EDGES.check;
    private static final String PLAIN = Edges.PLAIN;
    private static final int LEAST = Integer.MIN_VALUE;
    private static final int MOST = Integer.MAX_VALUE;

    private EdgesOfQuestionsTest() {
    }

    public static void main(String[] args) {
        seen();
        then();
        when();
        settles();
        toAim();
        toGain();
        note();
        other();
        look();
        forgetAll();
        storms();
        years();
        image();
        CHECK.end();
    }

    private static void seen() {
        latest128();
        wrongOctets();
        wrongBehindFirst();
        regainedCutDown();
    }

    private static void then() {
        thenWhat();
        thenSteps();
    }

    private static void when() {
        whenWhat();
        whenItPlays();
        whenFilled();
        whenDropped();
        whenReset();
    }

    private static void settles() {
        settlesBehind();
        settlesWithin2();
        settlesFor40();
        settlesPlayingOrNot();
    }

    private static void toAim() {
        toAimArguments();
        toAimTargets();
        toAimSteps();
    }

    private static void toGain() {
        toGainArguments();
        toGainNone();
        toGainGains();
        toGainLikeOnes();
    }

    private static void note() {
        noteEight();
        noteEdges();
    }

    private static void other() {
        otherWhat();
        otherOffsets();
        otherThanItIs();
        otherNone();
        otherFromNowOn();
    }

    private static void look() {
        lookWhat();
        lookBehind();
        lookAtFullBuffer();
        lookWithoutAny();
    }

    private static void storms() {
        stormsArguments();
        stormsTenths();
        stormsWithin80();
        stormsAndLosses();
        stormsElseAsEver();
        stormsAllSent();
        stormsBehindIt();
    }

    private static void years() {
        yearsArguments();
        yearsWithout();
        yearsDraws();
        yearsLevel();
    }

    private static void image() {
        imageInPlace();
        imageKeeps();
        imageKeepsAll();
        restoreNone();
    }

    private static void noElement(String call, Edges.Asked asked) {
        EDGES.noElement(call, Edges::busy, asked);
    }

    private static void illegal(String call, Edges.Asked asked) {
        EDGES.illegal(call, Edges::busy, asked);
    }

    /** A question that is answered changes nothing. */
    private static void changesNothing(String call, Edges.Asked asked) {
        CircuitCells x = Edges.busy();
        asked.answer(x);
        EDGES.unchanged("behind " + call, x, Edges.busy(), -1);
    }

    private static void latest128() {
        EDGES.sentence("9", "PLAYED OCTETS: the latest 128 are kept");
        for (int many : new int[] {127, 128, 129}) {
            CircuitCells x = Edges.after(PLAIN, many);
            int kept = Math.min(many, 128);
            CHECK.is("PLAYED ever", x.count(7), many);
            CHECK.is("the latest of " + many, x.played(0, 0), 85 + many - 1);
            CHECK.is("the earliest of " + many, x.played(kept - 1, 0), 85 + many - kept);
            CHECK.noElement("played(" + kept + ", 0) of " + many, () -> x.played(kept, 0));
        }
    }

    private static void wrongOctets() {
        EDGES.sentence("5", "WRONG: PLAYED ones, not FILLED, that aren't the far end's OCTET there");
        // At TIME 64, packet 64 is PUT in place of 0, if that isn't PLAYED by then.
        int[][] due = {{63, 0}, {64, 1}, {65, 1}};
        for (int[] row : due) {
            CircuitCells x = Edges.after("size 1; target 64; delay 0; gain 0 0; lost 64 < packet;", row[0]);
            x.turn(2, 16);
            x.steps(4);
            CHECK.is("WRONG, PLAYING from TIME " + row[0], x.count(15), row[1]);
            CHECK.is("the first OCTET PLAYED", x.played(3, 0), row[1] == 0 ? 85 : 85 + 64);
            CHECK.is("the next one", x.played(2, 0), 86);
        }
        CircuitCells y = Edges.after(PLAIN + "lost packet = 1;", 50);
        CHECK.is("a FILLED one is not WRONG", y.count(15), 0);
        CHECK.is("FILLED", y.count(8), 1);
        // 64 PACKETS of 4 OCTETS are 256 OCTETS: by a WORD of one the same OCTETS, by one of three others.
        String late = "size 4; target 64; delay 0; gain 0 0; lost packet = 15;";
        CHECK.is("the same OCTETS", Edges.after(late, 330).count(15), 0);
        CHECK.is("others", Edges.after(late + "word 1 2 3;", 330).count(15), 11);
    }

    private static void wrongBehindFirst() {
        EDGES.sentence("5", "the one so many behind the first OCTET of FIRST as PLACE has gone on since");
        for (int first : new int[] {1, 63, 64, 65, 130}) {
            CircuitCells x = Edges.after("size 3; target 1; delay 0; gain 0 0; word 1 2 3 4 5; lost packet < " + first + ";", 3 * first + 9);
            CHECK.is("PLAYED from packet " + first + " on", x.count(7), 7);
            CHECK.is("OCTET " + 3 * first, x.played(6, 0), (3 * first % 5 + 1 + 3 * first) % 256);
            CHECK.is("WRONG", x.count(15), 0);
        }
        // A RESET behind packet 0: FIRST anew is packet 70.
        CircuitCells y = Edges.after(PLAIN + "lost 0 < packet and packet < 70;", 80);
        CHECK.is("RESETS", y.count(14), 1);
        CHECK.is("PLAYED", y.count(7), 65 + 10);
        CHECK.is("WRONG", y.count(15), 0);
    }

    private static void regainedCutDown() {
        EDGES.sentence("5", "1000 times SIZE times SPREAD, by AGE, cut down, less 1000; none, if AGE is 0, IDLE");
        // By OFFSET 99, OCTETS 10 and 11 are made on the STEP of TIME 10.
        CircuitCells x = Edges.after("size 1; target 64; delay 0; offset 99; lost packet < 8;", 8);
        CHECK.is("IDLE", x.count(13), 10000);
        int[] due = {10000, 0, 3 * 1000 / 2 - 1000, 4 * 1000 / 3 - 1000, 5 * 1000 / 4 - 1000, 6 * 1000 / 5 - 1000, 7 * 1000 / 6 - 1000};
        for (int i = 0; i < due.length; i++) {
            x.steps(1);
            CHECK.is("behind " + (9 + i) + " STEPS", x.count(13), due[i]);
        }
    }

    private static void thenWhat() {
        EDGES.sentence("18", "THEN: LEVEL (what 0), CONTROL (1), STATE (2), PLAYED (3), FILLED (4), LATE (5). NoSuchElementException: another what.");
        for (int what : new int[] {-1, 6, LEAST, MOST}) {
            noElement("then(0, " + what + ")", x -> x.then(0, what));
            noElement("then(401, " + what + "), ahead", x -> x.then(401, what));
            noElement("then(-1, " + what + "), ahead", x -> x.then(-1, what));
        }
        int[] counts = {9, 11, 10, 7, 8, 5};
        for (int what = 0; what < 6; what++) {
            int w = what;
            CHECK.is("then(0, " + what + ")", Edges.busy().then(0, what), Edges.busy().count(counts[what]));
            changesNothing("then(400, " + what + ")", x -> x.then(400, w));
        }
    }

    private static void thenSteps() {
        EDGES.sentence("18", "IllegalArgumentException (behind that): not 0 to 400.");
        for (int steps : new int[] {-1, 401, LEAST, MOST}) {
            illegal("then(" + steps + ", 0)", x -> x.then(steps, 0));
            illegal("then(" + steps + ", 5)", x -> x.then(steps, 5));
        }
        int[] counts = {9, 11, 10, 7, 8, 5};
        for (int steps : new int[] {0, 1, 2, 399, 400}) {
            CircuitCells x = Edges.busy();
            Edges.go(x, steps);
            for (int what = 0; what < 6; what++) {
                CHECK.is("then(" + steps + ", " + what + ")", Edges.busy().then(steps, what), x.count(counts[what]));
            }
        }
    }

    private static void whenWhat() {
        EDGES.sentence("19", "a RESET (3); NONE: none. NoSuchElementException: another what.");
        for (int what : new int[] {-1, 4, LEAST, MOST}) {
            noElement("when(" + what + ")", x -> x.when(what));
        }
        for (int what = 0; what < 4; what++) {
            int w = what;
            changesNothing("when(" + what + ")", x -> x.when(w));
        }
    }

    private static void whenItPlays() {
        EDGES.sentence("19", "behind how many STEPS (0 to 400) it first PLAYS");
        int[][] due = {{0, 1}, {1, 2}, {398, 399}, {399, 400}, {400, -1}, {401, -1}};
        for (int[] row : due) {
            CHECK.is("FIRST comes at TIME " + row[0], Texts.told(PLAIN + "lost packet < " + row[0] + ";").when(0), row[1]);
        }
        CHECK.is("it PLAYS", Edges.after(PLAIN, 1).when(0), 0);
        CHECK.is("FILLING, TARGET 5", Edges.after("size 1; delay 0; target 5;", 4).when(0), 1);
        CHECK.is("FILLING for good", Texts.told(Edges.FILLING).when(0), -1);
        CircuitCells x = Edges.after(PLAIN + "lost 0 < packet and packet < 100;", 66);
        CHECK.is("RESET, and again at TIME 100", x.when(0), 101 - 66);
    }

    private static void whenFilled() {
        EDGES.sentence("19", "on the how manyth STEP from now (1 to 400) an OCTET is first FILLED");
        int[][] due = {{1, 2}, {2, 3}, {398, 399}, {399, 400}, {400, -1}};
        for (int[] row : due) {
            CHECK.is("packet " + row[0] + " is lost", Texts.told(PLAIN + "lost packet = " + row[0] + ";").when(1), row[1]);
        }
        CircuitCells x = Edges.after(PLAIN + "lost packet = 3;", 3);
        CHECK.is("on the next STEP", x.when(1), 1);
        x.steps(1);
        CHECK.is("what was FILLED counts for nothing", x.when(1), -1);
    }

    private static void whenDropped() {
        EDGES.sentence("19", "a PACKET dropped (LATE, BEYOND)");
        // From packet 40 on, 398 to 400 are 38 to 40 ahead, less 64; from packet 60 on they are 18 to 20 ahead.
        for (int first : new int[] {40, 60}) {
            int[][] due = {{398, 399}, {399, 400}, {400, -1}};
            for (int[] row : due) {
                CircuitCells x = Texts.told(Edges.FILLING + "lost not (packet = " + first + " or packet = " + row[0] + ");");
                CHECK.is("packet " + row[0] + " behind " + first, x.when(2), row[1]);
            }
            CircuitCells y = Edges.after(Edges.FILLING + "lost not (packet = " + first + " or packet = 399);", 399);
            CHECK.is("on the next STEP", y.when(2), 1);
            y.steps(1);
            CHECK.is("dropped", y.count(5) + y.count(6), 1);
            CHECK.is("LATE", y.count(5), first == 40 ? 1 : 0);
            CHECK.is("none any more", y.when(2), -1);
        }
        // Packet 20 comes 20 STEPS late, when packet 40 comes: one BEYOND, one LATE on a STEP.
        String both = "size 1; target 64; delay 20*(packet = 20); lost not (packet = 0 or packet = 20 or packet = 40);";
        CHECK.is("both ways on a STEP", Texts.told(both).when(2), 41);
    }

    private static void whenReset() {
        EDGES.sentence("19", "a RESET is; none");
        int[][] due = {{334, 399}, {335, 400}, {336, -1}};
        for (int[] row : due) {
            CHECK.is("64 FILLED from TIME " + (row[0] + 1), Texts.told(PLAIN + "lost " + row[0] + " < packet;").when(3), row[1]);
        }
        CircuitCells x = Edges.after(PLAIN + "lost 0 < packet;", 64);
        CHECK.is("on the next STEP", x.when(3), 1);
        x.steps(1);
        CHECK.is("what was counts for nothing", x.when(3), -1);
        CHECK.is("63 FILLED are none", Texts.told(PLAIN + "lost 0 < packet and packet < 64;").when(3), -1);
    }

    private static void settlesBehind() {
        EDGES.sentence("20", "SETTLES: behind how many STEPS (0 to 400) first it PLAYS, and LEVEL is within 2 of TARGET");
        int[][] due = {{0, 1}, {1, 2}, {398, 399}, {399, 400}, {400, -1}, {401, -1}};
        for (int[] row : due) {
            CHECK.is("FIRST comes at TIME " + row[0], Texts.told(PLAIN + "lost packet < " + row[0] + ";").settles(), row[1]);
        }
        CHECK.is("now", Edges.after(PLAIN, 1).settles(), 0);
        CHECK.is("it never PLAYS", Texts.told(Edges.FILLING).settles(), -1);
        changesNothing("settles()", CircuitCells::settles);
    }

    private static void settlesWithin2() {
        EDGES.sentence("20", "LEVEL is within 2 of TARGET at the end of each of the 40 STEPS behind that");
        // LEVEL is 4 at the end of each STEP.
        int[][] due = {{1, -1}, {2, 0}, {3, 0}, {4, 0}, {5, 0}, {6, 0}, {7, -1}};
        for (int[] row : due) {
            CircuitCells x = Edges.after("size 1; target 5; delay 0; gain 0 0;", 7);
            CHECK.is("LEVEL", x.count(9), 4);
            x.turn(2, row[0]);
            CHECK.is("TARGET " + row[0], x.settles(), row[1]);
        }
    }

    private static void settlesFor40() {
        EDGES.sentence("20", "at the end of each of the 40 STEPS behind that");
        // It PLAYS behind 4 STEPS, LEVEL 3. Three lost from packet n on: LEVEL is 2, 1, 0 behind n + 1, n + 2, n + 3 STEPS.
        int[][] due = {{41, 44}, {42, 45}, {43, 4}, {44, 4}};
        for (int[] row : due) {
            int n = row[0];
            CircuitCells x = Texts.told("size 1; target 4; delay 0; gain 0 0; lost " + (n - 1) + " < packet and packet < " + (n + 3) + ";");
            CHECK.is("LEVEL 1, 3 off, is behind the " + (n + 2 - 4) + "th STEP of 40", x.settles(), row[1]);
            CHECK.is("LEVEL behind " + (n + 1), x.then(n + 1, 0), 2);
            CHECK.is("LEVEL behind " + (n + 2), x.then(n + 2, 0), 1);
            CHECK.is("LEVEL behind " + (n + 3), x.then(n + 3, 0), 0);
            CHECK.is("LEVEL behind " + (n + 4), x.then(n + 4, 0), 3);
        }
    }

    private static void settlesPlayingOrNot() {
        EDGES.sentence("20", "(PLAYING then or not); none");
        // LEVEL 0 all the while, IDLE behind 65 STEPS.
        String text = PLAIN + "lost 0 < packet;";
        int[][] due = {{1, 0}, {24, 0}, {26, 0}, {63, 0}, {64, 0}, {65, -1}, {66, -1}};
        for (int[] row : due) {
            CHECK.is("behind " + row[0] + " STEPS", Edges.after(text, row[0]).settles(), row[1]);
        }
    }

    private static void toAimArguments() {
        EDGES.sentence("21", "TO AIM: which (what 0), how many (1). NoSuchElementException: another what. IllegalArgumentException (behind that): not 1 to 400.");
        for (int what : new int[] {-1, 2, LEAST, MOST}) {
            noElement("toAim(1, " + what + ")", x -> x.toAim(1, what));
            noElement("toAim(0, " + what + "), ahead", x -> x.toAim(0, what));
            noElement("toAim(401, " + what + "), ahead", x -> x.toAim(401, what));
        }
        for (int steps : new int[] {0, -1, 401, LEAST, MOST}) {
            illegal("toAim(" + steps + ", 0)", x -> x.toAim(steps, 0));
            illegal("toAim(" + steps + ", 1)", x -> x.toAim(steps, 1));
        }
        changesNothing("toAim(400, 0)", x -> x.toAim(400, 0));
    }

    private static void aims(String what, CircuitCells x, int steps, int which, int many) {
        CHECK.is("toAim(" + steps + ", 0), " + what, x.toAim(steps, 0), which);
        CHECK.is("toAim(" + steps + ", 1), " + what, x.toAim(steps, 1), many);
    }

    private static void toAimTargets() {
        EDGES.sentence("21", "so that fewest OCTETS are FILLED in so many STEPS (1 to 400): which (of like ones the least); how many are");
        aims("none FILLED by any", Texts.told(PLAIN), 400, 1, 0);
        // Packet 20 is lost: FILLED by each TARGET by which it PLAYS, and it never does from 17 on.
        String text = "size 1; target 30; delay 0; gain 0 0; lost packet = 20;";
        aims("packet 20 is lost", Texts.told(text), 60, 17, 0);
        aims("it is not PLAYED yet, by 1", Texts.told(text), 20, 1, 0);
        aims("by 1 it is", Texts.told(text), 21, 2, 0);
        aims("by 15 it is", Texts.told(text), 35, 16, 0);
        aims("by 16 it is", Texts.told(text), 36, 17, 0);
        // All are lost behind packet 0: by TARGET 64 CONTROL is -36 and 26.99 are FILLED in 28 STEPS, by 63 it is -35, and 27.02.
        String starved = "size 1; target 1; delay 0; gain 9 0; every 1; lost 0 < packet;";
        aims("the most TARGET", Edges.after(starved, 1), 28, 64, 26);
        aims("by all TARGETS alike", Edges.after(starved, 1), 1, 2, 0);
        // By TARGET 65, which is none of these, it would never PLAY.
        aims("64 OCTETS come and no more", Texts.told("size 8; target 64; delay 0; lost 7 < packet;"), 300, 1, 64);
        aims("what was FILLED counts for nothing", Edges.after(PLAIN + "lost packet = 20;", 30), 50, 1, 0);
    }

    private static void toAimSteps() {
        EDGES.sentence("21", "in so many STEPS (1 to 400)");
        int[][] due = {{398, 399}, {399, 400}};
        for (int[] row : due) {
            CircuitCells x = Edges.after("size 1; target 1; delay 0; gain 0 0; lost packet = " + row[0] + ";", 1);
            aims("FILLED on STEP " + row[0], x, row[0] - 1, 1, 0);
            aims("FILLED on STEP " + row[0], x, row[0], 1, 1);
        }
        CircuitCells y = Edges.after("size 1; target 1; delay 0; gain 0 0; lost packet = 1;", 1);
        aims("FILLED on the first STEP", y, 1, 1, 1);
        CircuitCells z = Edges.after("size 1; target 1; delay 0; gain 0 0; lost packet = 401;", 1);
        aims("FILLED on the 401st STEP", z, 400, 1, 0);
    }

    private static void toGainArguments() {
        EDGES.sentence("22", "TO GAIN: which (what 0; NONE), how much (1; NONE). NoSuchElementException: another what. IllegalArgumentException (behind that): not 1 to 400.");
        for (int what : new int[] {-1, 2, LEAST, MOST}) {
            noElement("toGain(1, " + what + ")", x -> x.toGain(1, what));
            noElement("toGain(0, " + what + "), ahead", x -> x.toGain(0, what));
            noElement("toGain(401, " + what + "), ahead", x -> x.toGain(401, what));
        }
        for (int steps : new int[] {0, -1, 401, LEAST, MOST}) {
            illegal("toGain(" + steps + ", 0)", x -> x.toGain(steps, 0));
            illegal("toGain(" + steps + ", 1)", x -> x.toGain(steps, 1));
        }
        changesNothing("toGain(400, 0)", x -> x.toGain(400, 0));
    }

    private static void gains(String what, CircuitCells x, int steps, int which, int much) {
        CHECK.is("toGain(" + steps + ", 0), " + what, x.toGain(steps, 0), which);
        CHECK.is("toGain(" + steps + ", 1), " + what, x.toGain(steps, 1), much);
    }

    private static void toGainNone() {
        EDGES.sentence("22", "is least (none, if on none)");
        // It PLAYS at the end of the 5th STEP, LEVEL 4; of the 400th; of the 401st.
        String text = "size 1; target 5; delay 0;";
        gains("FILLING", Texts.told(text), 1, -1, -1);
        gains("FILLING", Texts.told(text), 4, -1, -1);
        gains("PLAYING on the last", Texts.told(text), 5, 0, 1);
        gains("PLAYING", Texts.told(text), 6, 0, 1);
        gains("PLAYING on the 400th", Texts.told(text + "lost packet < 395;"), 400, 0, 1);
        gains("FILLING on the 400th", Texts.told(text + "lost packet < 396;"), 400, -1, -1);
        gains("a RESET on the next STEP", Edges.after(PLAIN + "every 7; lost 0 < packet;", 64), 1, -1, -1);
        // 63 are FILLED: with a CONTROL below 0 the next STEP is no RESET. GAINS by which it is one are left out.
        CircuitCells x = Edges.after(PLAIN + "every 1; lost 0 < packet;", 64);
        gains("TARGET 1: CONTROL 0 by all", x, 1, -1, -1);
        x.turn(2, 2);
        gains("TARGET 2: CONTROL -1 from 5 3 on", x, 1, 53, 2);
        x.turn(2, 16);
        gains("TARGET 16: CONTROL -1 from 0 1 on", x, 1, 1, 16);
    }

    private static final String DRAINS = "size 8; target 64; delay 0; lost 7 < packet; every ";

    /** The most that LEVEL is off TARGET 64 while none come any more, by a LINE that has these GAINS. */
    private static int offBy(int every, int gains, int steps) {
        CircuitCells x = Edges.after(DRAINS + every + "; gain " + gains / 10 + " " + gains % 10 + ";", 64);
        int most = -1;
        for (int i = 0; i < steps; i++) {
            x.steps(1);
            if (x.count(10) == 2) {
                most = Math.max(most, Math.abs(x.count(9) - 64));
            }
        }
        return most;
    }

    private static void toGainGains() {
        EDGES.sentence("22", "GAINS P, I (P 0 to 9, I 0 to 3) there should be");
        CHECK.is("by 9 3", offBy(2, 93, 59), 55);
        CHECK.is("by 8 3, more", offBy(2, 83, 59), 56);
        CHECK.is("by 9 2, more", offBy(2, 92, 59), 56);
        CHECK.is("by 9 4, which is none of these, less", offBy(2, 94, 59), 54);
        gains("the most GAINS", Edges.after(DRAINS + "2;", 64), 59, 93, 55);
        // By a P of 10 and an I of 3 it would be 28.
        gains("P 10 is none of these", Edges.after(DRAINS + "1;", 64), 29, 1, 29);
        for (int steps : new int[] {27, 30, 40}) {
            int best = -1;
            int least = -1;
            for (int gains = 0; gains < 100; gains++) {
                int off = gains % 10 > 3 ? -1 : offBy(1, gains, steps);
                if (off >= 0 && (least < 0 || off < least)) {
                    best = gains;
                    least = off;
                }
            }
            gains("by each of the GAINS", Edges.after(DRAINS + "1;", 64), steps, best, least);
        }
    }

    private static void toGainLikeOnes() {
        EDGES.sentence("22", "which (10 by P, and I; of like ones the least); how much");
        gains("all alike", Edges.after("size 1; target 5; delay 0; gain 9 9;", 5), 1, 0, 1);
        CHECK.is("by 0 0", offBy(1, 0, 29), 30);
        CHECK.is("by 0 1", offBy(1, 1, 29), 29);
        CHECK.is("by 0 2, alike", offBy(1, 2, 29), 29);
        gains("the least of like ones", Edges.after(DRAINS + "1;", 64), 29, 1, 29);
        CHECK.is("by 0 3", offBy(1, 3, 40), 39);
        CHECK.is("by 1 2", offBy(1, 12, 40), 39);
        CHECK.is("by 1 3", offBy(1, 13, 40), 38);
        gains("10 by P, and I", Edges.after(DRAINS + "1;", 64), 40, 13, 38);
    }

    private static CircuitCells noted(int many) {
        CircuitCells x = Edges.busy();
        for (int i = x.count(18); i < many; i++) {
            x.note(i, 7);
        }
        return x;
    }

    private static void noteEight() {
        EDGES.sentence("23", "NOTED: how much is. NONE (STATUS 2): there are 8");
        CircuitCells x = new CircuitCells();
        for (int i = 1; i <= 8; i++) {
            CHECK.is("note() " + i, x.note(0, 0), i);
            CHECK.is("NOTED", x.count(18), i);
            CHECK.is("STATUS 2", x.count(22), 0);
        }
        CHECK.is("note() 9", x.note(0, 0), -1);
        CHECK.is("NOTED", x.count(18), 8);
        CHECK.is("STATUS 2", x.count(22), 1);
        CHECK.is("no ACT", x.count(17), 0);
        CHECK.is("STATUS 1", x.count(21), 0);
        EDGES.refused("the ninth", () -> noted(8), y -> y.note(0, 0), -1, 2);
        CHECK.is("the eighth", noted(7).note(0, 0), 8);
        CircuitCells y = new CircuitCells();
        for (int i = 0; i < 8; i++) {
            y.note(0, 0);
        }
        y.note(0, 1);
        CHECK.is("the ninth is not NOTED", y.other(2), 1);
        y.forget();
        CHECK.is("none are left", y.note(0, 1), 1);
        CHECK.is("it counts", y.other(2), 0);
    }

    private static void noteEdges() {
        EDGES.sentence("23", "steps not 0 to 60, level not 0 to 999.");
        for (int odd : new int[] {-1, 61, LEAST, MOST}) {
            EDGES.refused("note(" + odd + ", 7)", Edges::busy, x -> x.note(odd, 7), -1, 2);
            EDGES.refused("note(" + odd + ", 1000)", Edges::busy, x -> x.note(odd, 1000), -1, 2);
        }
        for (int odd : new int[] {-1, 1000, LEAST, MOST}) {
            EDGES.refused("note(7, " + odd + ")", Edges::busy, x -> x.note(7, odd), -1, 2);
        }
        for (int steps : new int[] {0, 1, 59, 60}) {
            for (int level : new int[] {0, 1, 998, 999}) {
                CircuitCells x = new CircuitCells();
                CHECK.is("note(" + steps + ", " + level + ")", x.note(steps, level), 1);
                CHECK.is("STATUS 2", x.count(22), 0);
                CHECK.is("other(2)", x.other(2), x.then(steps, 0) == level ? 1 : 0);
            }
            CircuitCells y = new CircuitCells();
            y.note(steps, y.then(steps, 0));
            CHECK.is("it is so: note(" + steps + ", ..)", y.other(2), 1);
        }
    }

    private static void others(String what, CircuitCells x, int many, int least, int without) {
        CHECK.is("other(0), " + what, x.other(0), many);
        CHECK.is("other(1), " + what, x.other(1), least);
        CHECK.is("other(2), " + what, x.other(2), without);
    }

    private static void otherWhat() {
        EDGES.sentence("24", "OTHER: how many (what 0), the least (1; 100: none), whether without (2). NoSuchElementException: another what.");
        for (int what : new int[] {-1, 3, LEAST, MOST}) {
            noElement("other(" + what + ")", x -> x.other(what));
        }
        for (int what = 0; what < 3; what++) {
            int w = what;
            changesNothing("other(" + what + ")", x -> x.other(w));
        }
    }

    /** Behind 60 STEPS: the 67th OCTET is made by OFFSET 99 alone. */
    private static CircuitCells by99() {
        CircuitCells x = Edges.after("size 1; target 64; delay 0; offset 99; lost packet < 66;", 1);
        x.note(60, 1);
        return x;
    }

    /** Behind 60 STEPS: the 55th OCTET is made by each OFFSET but -99. */
    private static CircuitCells byLess99() {
        CircuitCells x = Edges.after("size 1; target 64; delay 0; offset -99; lost packet < 54;", 1);
        x.note(60, 0);
        return x;
    }

    private static void otherOffsets() {
        EDGES.sentence("24", "OTHER: OFFSETS (-99 to 99, another one than it is) that there might be from now on, by which all NOTED would be so");
        CircuitCells x = by99();
        others("it is 99", x, 0, 100, 1);
        x.turn(0, 98);
        others("by 99 alone", x, 1, 99, 0);
        x.turn(0, -99);
        others("by 99 alone", x, 1, 99, 0);
        CircuitCells y = byLess99();
        others("it is -99", y, 0, 100, 1);
        y.turn(0, -98);
        others("by -99 alone", y, 1, -99, 0);
        y.turn(0, 99);
        others("by -99 alone", y, 1, -99, 0);
        y.forget();
        y.note(60, 1);
        y.turn(0, 0);
        CHECK.is("the least but for -99", y.other(1), -98);
        // All NOTED, not any.
        CircuitCells z = Texts.told(Edges.FILLING);
        z.note(10, 10);
        others("from 0 on", z, 99, 1, 1);
        z.note(10, 9);
        others("none by both", z, 0, 100, 0);
    }

    private static void otherThanItIs() {
        EDGES.sentence("24", "another one than it is");
        for (int offset : new int[] {-99, -98, 0, 98, 99}) {
            CircuitCells x = Texts.told("size 1; target 64; delay 0; offset " + (offset < 0 ? "-" + -offset : offset) + ";");
            others("nothing NOTED, OFFSET " + offset, x, 198, offset == -99 ? -98 : -99, 1);
        }
    }

    private static void otherNone() {
        EDGES.sentence("24", "the least (NONE is told as 100); whether it is so without (1)");
        CircuitCells x = new CircuitCells();
        x.note(0, 0);
        others("LEVEL 0 now", x, 198, -99, 1);
        x.note(0, 1);
        others("LEVEL 1 now, by none", x, 0, 100, 0);
        CircuitCells y = new CircuitCells();
        y.note(60, 999);
        others("LEVEL 999", y, 0, 100, 0);
    }

    private static void otherFromNowOn() {
        EDGES.sentence("24", "NOTED (at most 8): LEVEL behind so many STEPS (0 to 60)");
        CircuitCells x = Texts.told(Edges.FILLING);
        x.note(0, 3);
        for (int i = 0; i < 6; i++) {
            CHECK.is("LEVEL " + i + " behind 0 STEPS", x.other(2), i == 3 ? 1 : 0);
            x.steps(1);
        }
        CircuitCells y = Texts.told(Edges.FILLING + "lost packet < 60;");
        y.note(60, 1);
        for (int i = 0; i < 3; i++) {
            CHECK.is("LEVEL " + i + " behind 60 STEPS", y.other(2), i == 1 ? 1 : 0);
            y.steps(1);
        }
    }

    private static void lookWhat() {
        EDGES.sentence("25", "LOOK NEXT: behind which (what 0; NONE), how many (1; 0: none). NoSuchElementException: another what.");
        for (int what : new int[] {-1, 2, LEAST, MOST}) {
            noElement("look(" + what + ")", x -> x.look(what));
        }
        changesNothing("look(0)", x -> x.look(0));
        changesNothing("look(1)", x -> x.look(1));
    }

    private static void looks(String what, CircuitCells x, int behind, int many) {
        CHECK.is("look(0), " + what, x.look(0), behind);
        CHECK.is("look(1), " + what, x.look(1), many);
    }

    private static void lookBehind() {
        EDGES.sentence("25", "behind which of 10, 20, 30, 40, 50 STEPS LEVEL is by these most unlike (of like ones the first): how many unlike");
        // 9 or 10 OCTETS are made in 10 STEPS, 18 to 21 in 20, 27 to 32 in 30, 36 to 43 in 40, 45 to 54 in 50.
        String text = "target 64; delay 0; size ";
        looks("9 or 10", Texts.told(text + "1;"), 10, 2);
        looks("7; 14 or 21; 21 or 28 ..", Texts.told(text + "7;"), 20, 2);
        looks("8; 16; 24 or 32 ..", Texts.told(text + "8;"), 30, 2);
        looks("16; 24; 32; 40 or 48 ..", Edges.after(text + "8;", 7), 40, 2);
        looks("FILLING till 16 are there: 9 or 10", Texts.told(text + "1;"), 10, 2);
        CircuitCells x = Texts.told(text + "8;");
        x.note(40, 32);
        looks("8; 16; 24; 32; 40 or 48", x, 50, 2);
        // It PLAYS: LEVEL 7, and what OFFSET makes more or less.
        looks("3 to 11 behind 50", Texts.told("size 1; target 8; delay 0; gain 0 0;"), 50, 9);
        CircuitCells y = Texts.told(text + "8; lost 1;");
        looks("all alike: the first", y, 10, 1);
        looks("by OFFSET 99 alone", turned(by99(), 0), 10, 1);
    }

    private static CircuitCells turned(CircuitCells x, int offset) {
        x.turn(0, offset);
        return x;
    }

    /** So slow a near end that 16 PACKETS lie there as it FILLS what lacks: LEVEL is 128 at times, and 0 behind the RESET. */
    private static CircuitCells full() {
        CircuitCells x = Texts.told("size 8; target 1; gain 0 1; every 16; offset -99; lost 1498 < time and time < 1578;");
        Edges.go(x, x.when(0));
        x.turn(2, 64);
        Edges.go(x, 1222 - x.count(0));
        x.turn(0, 99);
        Edges.go(x, 1631 - x.count(0));
        return x;
    }

    private static void lookAtFullBuffer() {
        EDGES.sentence("25", "OCTETS from PLACE up to the end of the highest spot");
        List<TreeSet<Integer>> levels = new ArrayList<>();
        for (int k = 0; k < 5; k++) {
            levels.add(new TreeSet<>());
        }
        for (int offset = -99; offset < 99; offset++) {
            CircuitCells x = turned(full(), offset);
            for (int k = 0; k < 5; k++) {
                levels.get(k).add(x.then(10 * k + 10, 0));
            }
        }
        CHECK.is("128 behind 40", levels.get(3).contains(128), true);
        CHECK.is("0 behind 50", levels.get(4).contains(0), true);
        for (int k = 0; k < 5; k++) {
            CHECK.is("5 unlike behind " + (10 * k + 10), levels.get(k).size() >= 5, k == 3);
        }
        CHECK.is("unlike behind 40", levels.get(3).size(), 5);
        looks("128 among them", full(), 40, 5);
    }

    private static void lookWithoutAny() {
        EDGES.sentence("25", "how many unlike; none without any");
        looks("99 alone, which it is", by99(), -1, 0);
        CircuitCells x = new CircuitCells();
        looks("without what is NOTED", x, x.look(0), x.look(1));
        x.note(0, 1);
        looks("by none", x, -1, 0);
    }

    private static void forgetAll() {
        EDGES.sentence("26", "All that is NOTED is forgotten.");
        for (int many : new int[] {0, 1, 7, 8}) {
            CircuitCells x = new CircuitCells();
            for (int i = 0; i < many; i++) {
                x.note(0, 5);
            }
            CHECK.is("NOTED", x.count(18), many);
            CHECK.is("other(2)", x.other(2), many == 0 ? 1 : 0);
            x.forget();
            CHECK.is("NOTED", x.count(18), 0);
            CHECK.is("other(2)", x.other(2), 1);
            for (int i = 1; i <= 8; i++) {
                CHECK.is("note()", x.note(0, 0), i);
            }
            CHECK.is("note()", x.note(0, 0), -1);
        }
        CircuitCells y = new CircuitCells();
        y.forget();
        EDGES.unchanged("forget() of nothing", y, new CircuitCells(), -1);
    }

    private static void stormsArguments() {
        EDGES.sentence("27", "STORMS. IllegalArgumentException: packets, tenths.");
        for (int packets : new int[] {0, -1, 6, LEAST, MOST}) {
            illegal("storms(" + packets + ", 0)", x -> x.storms(packets, 0));
            illegal("storms(" + packets + ", 10)", x -> x.storms(packets, 10));
            illegal("storms(" + packets + ", 11)", x -> x.storms(packets, 11));
        }
        for (int tenths : new int[] {-1, 11, LEAST, MOST}) {
            illegal("storms(1, " + tenths + ")", x -> x.storms(1, tenths));
            illegal("storms(5, " + tenths + ")", x -> x.storms(5, tenths));
        }
        changesNothing("storms(1, 0)", x -> x.storms(1, 0));
        changesNothing("storms(5, 10)", x -> x.storms(5, 10));
        changesNothing("storms(5, 5)", x -> x.storms(5, 5));
    }

    private static void stormsTenths() {
        EDGES.sentence("27", "of the next n PACKETS SENT (1 to 5), each is lost with so many tenths (0 to 10)");
        // Each that is lost is FILLED.
        CircuitCells x = Edges.after(PLAIN, 1);
        int all = 1;
        int nine = 1;
        int five = 1;
        for (int n = 1; n <= 5; n++) {
            all *= 10;
            nine *= 9;
            five *= 5;
            CHECK.is("storms(" + n + ", 0)", x.storms(n, 0), all);
            CHECK.is("storms(" + n + ", 1)", x.storms(n, 1), nine);
            CHECK.is("storms(" + n + ", 5)", x.storms(n, 5), five);
            CHECK.is("storms(" + n + ", 9)", x.storms(n, 9), 1);
            CHECK.is("storms(" + n + ", 10)", x.storms(n, 10), 0);
        }
        // It isn't PLAYING yet: the first ones may be lost, up to the first that isn't; behind it none may.
        CircuitCells y = Texts.told(PLAIN);
        CHECK.is("one, lost or not", y.storms(1, 5), 10);
        CHECK.is("two: not the first there and the second lost", y.storms(2, 3), 100 - 7 * 3);
        CHECK.is("five, all lost", y.storms(5, 10), 100000);
        CircuitCells z = Edges.after(PLAIN + "lost 6 < packet;", 1);
        CHECK.is("the sixth is none of five; packet 7 is lost", z.storms(5, 0), 0);
    }

    private static void stormsWithin80() {
        EDGES.sentence("27", "how likely no OCTET is FILLED within 80 STEPS: as so many of 10 to the power of n");
        int[][] due = {{79, 0}, {80, 0}, {81, 10}, {82, 10}};
        for (int[] row : due) {
            CircuitCells x = Edges.after(PLAIN + "lost packet = " + row[0] + ";", 1);
            CHECK.is("FILLED on STEP " + row[0], x.storms(1, 0), row[1]);
        }
        CircuitCells y = Edges.after(PLAIN + "lost packet = 3;", 5);
        CHECK.is("what was FILLED counts for nothing", y.storms(5, 0), 100000);
        // LEVEL 63 and PACKETS of 8: those lost are FILLED from STEP 64, 72, 80, 88 on.
        CircuitCells z = Edges.after("size 8; target 64; delay 0; gain 0 0;", 64);
        CHECK.is("the third is FILLED in time", z.storms(3, 4), 216);
        CHECK.is("the fourth is FILLED too late", z.storms(4, 4), 216 * 10);
        CHECK.is("the fifth, too", z.storms(5, 4), 216 * 100);
    }

    private static void stormsAndLosses() {
        EDGES.sentence("27", "LOSSES count for nothing with these n, and stay");
        CircuitCells x = Edges.after(PLAIN, 1);
        x.lose(1);
        CHECK.is("LOSSES are of the PACKET behind the n", x.storms(1, 0), 0);
        CHECK.is("LOSSES are of the PACKET behind the n", x.storms(5, 0), 0);
        CHECK.is("LOSSES", x.set(9), 1);
        // Not PLAYING yet: one lost at first is no harm, LOSSES behind one that came are.
        CircuitCells y = Texts.told(PLAIN);
        y.lose(20);
        CHECK.is("lost, and 20 more", y.storms(1, 4), 4);
        CHECK.is("both lost, and 20 more", y.storms(2, 4), 16);
        CHECK.is("LOSSES", y.set(9), 20);
        // By packet 5 a gap of LOSSES that begins with the n would be over.
        CircuitCells z = Texts.told(PLAIN + "lost packet < 2;");
        z.lose(2);
        CHECK.is("packets 0, 1 by LOST, 2, 3 by LOSSES", z.storms(2, 0), 100);
    }

    private static void stormsElseAsEver() {
        EDGES.sentence("27", "else as ever (by LOST, by 40 in flight");
        CHECK.is("by LOST", Edges.after(PLAIN + "lost packet = 2;", 1).storms(3, 0), 0);
        CHECK.is("by LOST, or not", Edges.after(PLAIN + "lost packet = 2;", 1).storms(1, 0), 0);
        // Packet 0 comes at once, the others 60 STEPS late: FILLED, 40 in flight or not.
        CircuitCells x = Edges.after("size 1; target 1; gain 0 0; delay 60 * (0 < packet);", 2);
        CHECK.is("late ones are FILLED", x.storms(1, 0), 0);
        // IDLE, 40 in flight at TIME 40: packets 40 to 60 are lost. FIRST comes at TIME 60, packet 39 at 99, 61 at 121.
        CircuitCells y = Edges.after("size 1; target 1; gain 0 0; delay 60;", 40);
        CHECK.is("in flight", y.count(4), 40);
        CHECK.is("what they lose", y.storms(1, 0), 0);
        // So OCTET 40 is FILLED at TIME 100.
        CHECK.is("on STEP 81", Edges.after("size 1; target 1; gain 0 0; delay 60;", 20).storms(1, 0), 10);
        CHECK.is("on STEP 80", Edges.after("size 1; target 1; gain 0 0; delay 60;", 21).storms(1, 0), 0);
    }

    private static void stormsAllSent() {
        // In 80 STEPS nine PACKETS are SENT at the least, more than the five there may be.
        EDGES.sentence("27", "fewer SENT in time: all ways alike");
        CHECK.is("the longest PACKETS by the slowest clock", Edges.after("size 8; offset -99;", 80).count(2), 9);
        CircuitCells x = Edges.after("size 8; target 8; delay 0; offset -99; gain 9 9;", 9);
        CHECK.is("PLAYING", x.count(10), 2);
        for (int n = 1; n <= 5; n++) {
            CHECK.is("all lost", x.storms(n, 10), 0);
        }
    }

    private static void stormsBehindIt() {
        EDGES.sentence("27", "STORMS. IllegalArgumentException: packets, tenths.");
        int[] due = {Edges.rich().then(60, 4), Edges.rich().when(1), Edges.rich().settles(), Edges.rich().toAim(60, 1),
            Edges.rich().toGain(60, 1), Edges.rich().look(1), Edges.rich().years(5, 60, 0)};
        CircuitCells x = Edges.rich();
        x.storms(5, 10);
        CHECK.is("then() behind it", x.then(60, 4), due[0]);
        x.storms(5, 10);
        CHECK.is("when() behind it", x.when(1), due[1]);
        x.storms(5, 10);
        CHECK.is("settles() behind it", x.settles(), due[2]);
        x.storms(5, 10);
        CHECK.is("toAim() behind it", x.toAim(60, 1), due[3]);
        x.storms(5, 10);
        CHECK.is("toGain() behind it", x.toGain(60, 1), due[4]);
        x.storms(5, 10);
        CHECK.is("look() behind it", x.look(1), due[5]);
        x.storms(5, 10);
        CHECK.is("years() behind it", x.years(5, 60, 0), due[6]);
        CircuitCells y = Edges.after(PLAIN, 1);
        y.storms(5, 5);
        CHECK.is("none FILLED", y.then(60, 4), 0);
        CHECK.is("none FILLED", y.when(1), -1);
        y.lose(2);
        y.storms(5, 5);
        CHECK.is("two FILLED, by LOSSES", y.then(2, 4), 2);
    }

    private static void yearsArguments() {
        EDGES.sentence("28", "YEARS: FILLED (what 0), RESETS (1), LEVEL (2). NoSuchElementException: another what. IllegalArgumentException (behind that): n.");
        for (int what : new int[] {-1, 3, LEAST, MOST}) {
            noElement("years(5, 1, " + what + ")", x -> x.years(5, 1, what));
            noElement("years(5, -1, " + what + "), ahead", x -> x.years(5, -1, what));
            noElement("years(5, 61, " + what + "), ahead", x -> x.years(5, 61, what));
        }
        for (int n : new int[] {-1, 61, LEAST, MOST}) {
            for (int what = 0; what < 3; what++) {
                int w = what;
                illegal("years(5, " + n + ", " + what + ")", x -> x.years(5, n, w));
            }
        }
        changesNothing("years(5, 0, 0)", x -> x.years(5, 0, 0));
        changesNothing("years(5, 60, 2)", x -> x.years(5, 60, 2));
    }

    private static void yearsWithout() {
        EDGES.sentence("28", "the most LEVEL behind any of these tens (0 without)");
        CircuitCells x = Edges.after("size 8; target 64; delay 0;", 40);
        CHECK.is("LEVEL now", x.count(9), 40);
        for (int seed : new int[] {0, -1, LEAST, MOST}) {
            for (int what = 0; what < 3; what++) {
                CHECK.is("years(" + seed + ", 0, " + what + ")", x.years(seed, 0, what), 0);
            }
        }
    }

    private static int seed;

    private static int draw(int n) {
        seed = seed * 1103515245 + 12345;
        return (seed >>> 16) % 32768 % n;
    }

    /** What YEARS tell, done with ACTS on an object. */
    private static int[] byActs(CircuitCells x, int from, int n) {
        int filled = x.count(8);
        int resets = x.count(14);
        int level = 0;
        seed = from;
        for (int i = 0; i < n; i++) {
            switch (draw(5)) {
                case 0: x.lose(draw(4)); break;
                case 1: x.stall(draw(12)); break;
                case 2: x.turn(0, draw(41) - 20); break;
                default: break;
            }
            x.steps(10);
            level = Math.max(level, x.count(9));
        }
        return new int[] {x.count(8) - filled, x.count(14) - resets, level};
    }

    private static void yearsDraws() {
        EDGES.sentence("28", "A seed becomes itself times 1103515245 and 12345 (an int that wraps); a DRAW of n is its bits 16 to 30 MOD n then");
        String lossy = "size 1; target 9; gain 1 1; delay packet - packet/7*7; lost 100 < packet and packet < 180;";
        for (String text : new String[] {lossy, "size 5; target 20; delay 2;", "size 8; target 40; every 3; gain 9 3;"}) {
            for (int from : new int[] {0, 1, -1, 2, 65535, 65536, 1 << 30, 7654321, LEAST, LEAST + 1, MOST, MOST - 1}) {
                for (int n : new int[] {1, 2, 59, 60}) {
                    int[] due = byActs(Edges.after(text, 20), from, n);
                    CircuitCells x = Edges.after(text, 20);
                    for (int what = 0; what < 3; what++) {
                        CHECK.is("years(" + from + ", " + n + ", " + what + ") of " + text, x.years(from, n, what), due[what]);
                    }
                }
            }
        }
    }

    private static void yearsLevel() {
        EDGES.sentence("28", "then 10 STEPS: how many OCTETS are FILLED in all of these; RESETS; the most LEVEL behind any of these tens");
        // 64 are FILLED from TIME 1 on: none behind it, 1 of 63 and one of the RESET ahead.
        CircuitCells x = Edges.after(PLAIN + "lost 0 < packet;", 60);
        CHECK.is("FILLED", x.years(5, 1, 0), 64 - 59);
        CHECK.is("RESETS", x.years(5, 1, 1), 1);
        CHECK.is("LEVEL", x.years(5, 1, 2), 0);
        x.steps(5);
        CHECK.is("what was FILLED counts for nothing", x.years(5, 60, 0), 0);
        CHECK.is("what was a RESET counts for nothing", x.years(5, 60, 1), 0);
        CircuitCells y = Edges.after("size 1; target 64; delay 0; lost 5 < packet;", 3);
        CHECK.is("LEVEL behind the first ten", y.years(-7, 1, 2) <= 6, true);
    }

    private static void imageInPlace() {
        EDGES.sentence("29", "AN IMAGE is kept, in place of another one.");
        CircuitCells x = new CircuitCells();
        x.steps(3);
        x.image();
        x.steps(4);
        x.image();
        x.steps(5);
        CHECK.is("restore()", x.restore(), true);
        CHECK.is("TIME of the later one", x.count(0), 7);
        CHECK.is("ACTS", x.count(17), 2);
        CHECK.is("restore() again", x.restore(), true);
        CHECK.is("TIME", x.count(0), 7);
        x.undo();
        x.image();
        CHECK.is("restore()", x.restore(), true);
        CHECK.is("TIME of the latest one", x.count(0), 3);
    }

    private static void imageKeeps() {
        EDGES.sentence("30", "AN IMAGE keeps all that STEPS and ACTS change, ACTS that are kept, what is NOTED, STATUS");
        CircuitCells x = imaged();
        for (int i = 0; i < 5; i++) {
            x.undo();
        }
        x.turn(2, 33);
        x.turn(1, 1);
        x.turn(0, 44);
        x.stall(5);
        x.lose(7);
        x.steps(51);
        x.steps(50);
        x.forget();
        x.note(1, 2);
        x.note(61, 2);
        x.note(2, 3);
        Texts.tell(x, "size;");
        CHECK.is("restore()", x.restore(), true);
        CHECK.is("the FAULT is no part of it", x.fault(), 4);
        CircuitCells untouched = imaged();
        Texts.tell(untouched, "size;");
        untouched.restore();
        EDGES.unchanged("restore()", x, untouched, -1);
        // What is NOTED is so, by OFFSETS of -20 and near; then other things are NOTED.
        CircuitCells z = Edges.busy();
        z.forget();
        z.note(30, z.then(30, 0));
        int many = z.other(0);
        z.image();
        z.forget();
        z.note(31, 999);
        CHECK.is("other(0)", z.other(0), 0);
        z.restore();
        CHECK.is("other(0)", z.other(0), many);
        CHECK.is("other(2)", z.other(2), 1);
        // 40 ACTS are kept, and with them 41 or more that were.
        CircuitCells y = new CircuitCells();
        for (int i = 0; i < 41; i++) {
            y.steps(1);
        }
        y.image();
        for (int i = 0; i < 45; i++) {
            y.steps(2);
        }
        y.restore();
        CHECK.is("ACTS", y.count(17), 40);
        for (int i = 39; i >= 0; i--) {
            CHECK.is("undo()", y.undo(), i);
        }
        CHECK.is("undo()", y.undo(), -1);
        CHECK.is("TIME", y.count(0), 1);
    }

    private static void imageKeepsAll() {
        EDGES.sentence("30", "AN IMAGE keeps all that STEPS and ACTS change");
        CircuitCells x = Edges.rich();
        x.image();
        Edges.go(x, 350);
        x.lose(9);
        x.stall(9);
        x.turn(0, -9);
        x.turn(1, 1);
        x.turn(2, 9);
        x.steps(5);
        CHECK.is("restore()", x.restore(), true);
        CircuitCells due = Edges.rich();
        due.image();
        EDGES.unchanged("restore()", x, due, -1);
        CircuitCells y = Edges.rich();
        Edges.go(y, 300);
        y.image();
        Edges.go(y, 150);
        y.restore();
        CircuitCells late = Edges.rich();
        Edges.go(late, 300);
        late.image();
        EDGES.unchanged("restore(), later", y, late, -1);
    }

    private static CircuitCells imaged() {
        CircuitCells x = Edges.busy();
        x.note(61, 1);
        x.steps(0);
        Texts.tell(x, "x");
        x.image();
        return x;
    }

    private static void restoreNone() {
        EDGES.sentence("30", "It is as the IMAGE again: true. False: there is none.");
        CircuitCells x = Edges.after("size 3;", 5);
        CHECK.is("none", x.restore(), false);
        EDGES.unchanged("restore() of none", x, Edges.after("size 3;", 5), -1);
        CircuitCells y = Edges.after("size 3;", 5);
        y.image();
        Texts.tell(y, "size 9;");
        CHECK.is("behind a FAULT", y.restore(), true);
        Texts.tell(y, "size 8;");
        CHECK.is("behind a LINE", y.restore(), false);
        CHECK.is("SIZE", y.set(0), 8);
        y.image();
        CHECK.is("an image of a new LINE", y.restore(), true);
        CHECK.is("TIME", y.count(0), 0);
    }
}
