import java.util.ArrayList;
import java.util.List;

/** The boundary cases that part 1 of the Terms names (by promise 3), and promises 1 to 4, a test for each sentence. */
public final class EdgesOfTextTest {
    private static final Edges EDGES = new Edges();
    private static final Check CHECK = EDGES.check;
    private static final String[] CLAUSES = {"size 4;", "target 9;", "gain 1 1;", "every 2;", "offset -3;", "frame 2;",
        "word 1 2;", "delay 1;", "lost 0;"};

    private EdgesOfTextTest() {
    }

    public static void main(String[] args) {
        numbersOfClauses();
        octets();
        texts();
        tokens();
        grammar();
        expressions();
        values();
        faults();
        newObject();
        feed();
        line();
        faultPlace();
        CHECK.end();
    }

    private static void numbersOfClauses() {
        size();
        target();
        gains();
        every();
        offset();
        frame();
        wordLength();
        wordNumbers();
    }

    private static void octets() {
        octetsOfTheWord();
        octetsMod256();
    }

    private static void texts() {
        atMost700Bytes();
        emptyText();
    }

    private static void tokens() {
        words();
        otherWords();
        longestRow();
        digits();
        signs();
        blanks();
    }

    private static void grammar() {
        perhaps();
        anyNumberOfTimes();
        oneComparison();
    }

    private static void expressions() {
        wraps();
        cutDown();
        byNothing();
        oneOrNothing();
    }

    private static void values() {
        packetAhead();
        timeOfSending();
        lastAhead();
        flyingAhead();
    }

    private static void faults() {
        cannotStand();
        isNoToken();
        endsTooSoon();
        tooManyDigits();
        notAsTold();
        seventeenth();
        tooDeep();
        tooManyNots();
        noValue();
        toldAgain();
        firstAlongTheText();
        firstByte();
        theLeast();
    }

    private static void feed() {
        feedUpTo700();
        feedHighestFirst();
        feedRefused();
    }

    private static void line() {
        lineOfTheTape();
        lineAllAnew();
        lineRulesAnew();
        lineEmptiesTheTape();
        lineBeyondTheTape();
        lineWithoutFault();
        lineWithFault();
        lineTakesAway();
    }

    private static void faultPlace() {
        placeOfTheLatest();
        noPlace();
    }

    /** A NUMBER in a CLAUSE at its edges: what set() tells of it, and the FAULT one beyond. */
    private static void number(String ahead, String behind, int what, int least, int most) {
        for (int value : new int[] {least - 1, least, least + 1, most - 1, most, most + 1}) {
            String text = ahead + value + behind;
            if (value < 0) {
                EDGES.fault(text, 1, ahead.length());
            } else if (value < least || value > most) {
                EDGES.fault(text, 2, ahead.length());
            } else {
                CHECK.is("set(" + what + ") of «" + text + "»", EDGES.sound(text).set(what), value);
            }
        }
    }

    private static void size() {
        EDGES.sentence("3", "SIZE of PACKETS (1 to 8 OCTETS; 4 without)");
        number("size ", ";", 0, 1, 8);
        CHECK.is("SIZE without", EDGES.sound("target 12;").set(0), 4);
    }

    private static void target() {
        EDGES.sentence("3", "TARGET (1 to 64 OCTETS; 12 without)");
        number("target ", ";", 1, 1, 64);
        CHECK.is("TARGET without", EDGES.sound("size 4;").set(1), 12);
    }

    private static void gains() {
        EDGES.sentence("3", "GAINS P, I (0 to 9 each; 4, 1 without)");
        number("gain ", " 5;", 2, 0, 9);
        number("gain 5 ", ";", 3, 0, 9);
        CHECK.is("P without", EDGES.sound("").set(2), 4);
        CHECK.is("I without", EDGES.sound("").set(3), 1);
    }

    private static void every() {
        EDGES.sentence("3", "EVERY (1 to 16; 8 without)");
        number("every ", ";", 4, 1, 16);
        CHECK.is("EVERY without", EDGES.sound("").set(4), 8);
    }

    private static void offset() {
        EDGES.sentence("3", "OFFSET (-99 to 99; 0 without)");
        for (int size : new int[] {0, 1, 98, 99}) {
            CHECK.is("OFFSET of " + size, EDGES.sound("offset " + size + ";").set(5), size);
            CHECK.is("OFFSET of -" + size, EDGES.sound("offset -" + size + ";").set(5), -size);
        }
        EDGES.fault("offset 100;", 2, 7);
        EDGES.fault("offset -100;", 2, 8);
        CHECK.is("OFFSET without", EDGES.sound("").set(5), 0);
    }

    private static void frame() {
        EDGES.sentence("3", "FRAME (1 to 8; 1 without)");
        number("frame ", ";", 6, 1, 8);
        CHECK.is("FRAME without", EDGES.sound("").set(6), 1);
    }

    private static void wordLength() {
        EDGES.sentence("3", "a WORD of 1 to 16 OCTETS (0 to 255; one of 85 without)");
        EDGES.fault("word;", 1, 4);
        CHECK.is("one", EDGES.sound("word 7;").set(7), 1);
        CHECK.is("two", EDGES.sound("word 7 7;").set(7), 2);
        CHECK.is("15", EDGES.sound("word" + " 7".repeat(15) + ";").set(7), 15);
        CHECK.is("16", EDGES.sound("word" + " 7".repeat(16) + ";").set(7), 16);
        EDGES.fault("word" + " 7".repeat(17) + ";", 2, 4 + 2 * 16 + 1);
        CHECK.is("without", EDGES.sound("").set(7), 1);
        CHECK.is("85", Edges.after(Edges.PLAIN, 1).played(0, 0), 85);
    }

    private static void wordNumbers() {
        EDGES.sentence("3", "(0 to 255; one of 85 without)");
        for (int octet : new int[] {0, 1, 254, 255}) {
            CHECK.is("octet 0 of the word " + octet, Edges.after(Edges.PLAIN + "word " + octet + ";", 1).played(0, 0), octet);
        }
        for (int octet : new int[] {0, 1, 254, 255}) {
            CHECK.is("octet 1 of the word 9 " + octet, Edges.after(Edges.PLAIN + "word 9 " + octet + ";", 2).played(0, 0), (octet + 1) % 256);
        }
        EDGES.fault("word 256;", 2, 5);
        EDGES.fault("word 255 256;", 2, 9);
        EDGES.fault("word -1;", 1, 5);
        EDGES.fault("word" + " 7".repeat(15) + " 256;", 2, 4 + 2 * 15 + 1);
    }

    private static void octetsOfTheWord() {
        EDGES.sentence("9", "OCTET i of the far end is that of the WORD at i MOD its length, and i, MOD 256");
        CircuitCells x = Edges.after(Edges.PLAIN + "word 10 50 90;", 7);
        int[] due = {10, 50 + 1, 90 + 2, 10 + 3, 50 + 4, 90 + 5, 10 + 6};
        for (int i = 0; i < due.length; i++) {
            CHECK.is("OCTET " + i, x.played(6 - i, 0), due[i]);
        }
        CircuitCells y = Edges.after(Edges.PLAIN + "word 1" + " 0".repeat(14) + " 99;", 18);
        CHECK.is("OCTET 14 of a WORD of 16", y.played(3, 0), 14);
        CHECK.is("OCTET 15", y.played(2, 0), 99 + 15);
        CHECK.is("OCTET 16", y.played(1, 0), 1 + 16);
        CHECK.is("OCTET 17", y.played(0, 0), 17);
    }

    private static void octetsMod256() {
        EDGES.sentence("9", "MOD its length, and i, MOD 256");
        CircuitCells x = Edges.after(Edges.PLAIN + "word 255;", 3);
        CHECK.is("255 and 0", x.played(2, 0), 255);
        CHECK.is("255 and 1", x.played(1, 0), 0);
        CHECK.is("255 and 2", x.played(0, 0), 1);
        CircuitCells y = Edges.after(Edges.PLAIN + "word 0;", 258);
        CHECK.is("0 and 255", y.played(2, 0), 255);
        CHECK.is("0 and 256", y.played(1, 0), 0);
        CHECK.is("0 and 257", y.played(0, 0), 1);
    }

    private static void atMost700Bytes() {
        EDGES.sentence("3", "A TEXT of at most 700 bytes tells it");
        for (int bytes : new int[] {699, 700}) {
            CircuitCells x = new CircuitCells();
            Texts.feed(x, " ".repeat(bytes - 7) + "size 7;");
            CHECK.is("line(" + bytes + ")", x.line(bytes), 0);
            CHECK.is("SIZE", x.set(0), 7);
        }
        CircuitCells x = new CircuitCells();
        Texts.feed(x, " ".repeat(694) + "size 7");
        CHECK.is("the 701st byte doesn't come", x.feed(';' << 24, 0, 0, 0, 0), -1);
        CHECK.illegal("line(701)", () -> x.line(701));
        CHECK.is("line(700)", x.line(700), 1);
        CHECK.is("its length", x.fault(), 700);
    }

    private static void emptyText() {
        EDGES.sentence("3", "TEXT: CLAUSE*.");
        EDGES.sound("");
        EDGES.sound(" ");
        EDGES.sound("\n \n");
        EDGES.sound("size 4;");
        EDGES.sound(String.join("", CLAUSES));
        EDGES.fault(";", 1, 0);
        EDGES.fault("size 4;;", 1, 7);
    }

    private static void words() {
        EDGES.sentence("3", "words (a .. z, the longest row)");
        EDGES.sound("size 4;target 4;frame 2;every 1;");
        EDGES.fault("siz` 4;", 1, 0);
        EDGES.fault("size` 4;", 1, 4);
        EDGES.fault("size{ 4;", 1, 4);
        EDGES.fault("`", 1, 0);
        EDGES.fault("{", 1, 0);
        EDGES.fault("a", 1, 0);
        EDGES.fault("z", 1, 0);
        EDGES.fault("delay z;", 3, 6);
        EDGES.fault("delay a;", 3, 6);
        EDGES.fault("delay {;", 1, 6);
        EDGES.fault("delay `;", 1, 6);
        EDGES.fault("SIZE 4;", 1, 0);
    }

    /** A word less or more by a byte at each of its places is another one. */
    private static void otherWords() {
        EDGES.sentence("3", "CLAUSE: ('size' NUMBER | 'target' NUMBER | 'gain' NUMBER NUMBER | 'every' NUMBER | 'offset' ['-'] NUMBER | 'frame' NUMBER | 'word' NUMBER NUMBER* | ('delay' | 'lost') EXPR) ';'.");
        for (String clause : CLAUSES) {
            String word = clause.substring(0, clause.indexOf(' '));
            for (String other : otherThan(word)) {
                EDGES.fault(other + clause.substring(word.length()), 1, 0);
            }
        }
        for (String word : new String[] {"packet", "time", "last", "flying"}) {
            EDGES.sound("delay " + word + ";");
            for (String other : otherThan(word)) {
                EDGES.fault("delay " + other + ";", 3, 6);
            }
        }
        for (String other : otherThan("not")) {
            EDGES.fault("delay " + other + " 1;", 3, 6);
        }
        for (String word : new String[] {"or", "and"}) {
            EDGES.sound("delay 1 " + word + " 1;");
            for (String other : otherThan(word)) {
                EDGES.fault("delay 1 " + other + " 1;", 1, 8);
            }
        }
    }

    private static List<String> otherThan(String word) {
        List<String> others = new ArrayList<>();
        for (int i = 0; i < word.length(); i++) {
            others.add(word.substring(0, i) + "q" + word.substring(i + 1));
        }
        others.add(word.substring(1));
        others.add(word.substring(0, word.length() - 1));
        others.add(word + "q");
        others.add("q" + word);
        return others;
    }

    private static void longestRow() {
        EDGES.sentence("3", "the longest row");
        EDGES.fault("siz 4;", 1, 0);
        EDGES.sound("size4;");
        EDGES.fault("sizes 4;", 1, 0);
        EDGES.fault("sizesize 4;", 1, 0);
        EDGES.fault("delay pack;", 3, 6);
        EDGES.sound("delay packet;");
        EDGES.fault("delay packets;", 3, 6);
        EDGES.fault("delay packettime;", 3, 6);
        EDGES.sound("delay 1or 2and 3;");
        EDGES.fault("delay 1 ortime;", 1, 8);
        EDGES.fault("delay nottime;", 3, 6);
        EDGES.sound("delay not time;");
    }

    private static void digits() {
        EDGES.sentence("3", "NUMBERS (1 to 4 digits)");
        EDGES.fault("target ;", 1, 7);
        for (String digits : new String[] {"9", "09", "009", "0009"}) {
            CHECK.is("TARGET of " + digits, EDGES.sound("target " + digits + ";").set(1), 9);
        }
        EDGES.fault("target 00009;", 2, 7);
        EDGES.fault("target 000009;", 2, 7);
        EDGES.fault("target 9:;", 1, 8);
        EDGES.fault("target :9;", 1, 7);
        EDGES.fault("target /9;", 1, 7);
        EDGES.sound("delay 9999;");
        EDGES.fault("delay 10000;", 2, 6);
    }

    private static void signs() {
        EDGES.sentence("3", "signs ; ( ) + - * / < =");
        for (char sign : "+-*/<=".toCharArray()) {
            EDGES.sound("delay 1" + sign + "1;");
        }
        EDGES.sound("delay (1);");
        for (char none : "!\"#$%&',.:>?@A[\\]^_`{|}~Z\u007f\u0080\u00a0\u00ff\u0001\u0000".toCharArray()) {
            EDGES.fault("delay 1" + none + "1;", 1, 7);
        }
    }

    private static void blanks() {
        EDGES.sentence("3", "blanks (32, 10) between them count for nothing");
        CHECK.is("TARGET", EDGES.sound(" \n target\n\n9 ; \n").set(1), 9);
        CHECK.is("TARGET", EDGES.sound("target9;").set(1), 9);
        for (int none : new int[] {0, 9, 11, 12, 13, 31, 33, 160}) {
            EDGES.fault("target" + (char) none + "9;", 1, 6);
            EDGES.fault((char) none + "target 9;", 1, 0);
        }
        EDGES.fault("tar get 9;", 1, 0);
        EDGES.fault("target 1 2;", 1, 9);
        EDGES.fault("delay 1\n2;", 1, 8);
    }

    private static void perhaps() {
        EDGES.sentence("3", "'offset' ['-'] NUMBER");
        CHECK.is("none", EDGES.sound("offset 5;").set(5), 5);
        CHECK.is("one", EDGES.sound("offset-5;").set(5), -5);
        CHECK.is("one", EDGES.sound("offset - 5;").set(5), -5);
        EDGES.fault("offset --5;", 1, 8);
        EDGES.fault("offset +5;", 1, 7);
        EDGES.fault("offset -;", 1, 8);
    }

    private static void anyNumberOfTimes() {
        EDGES.sentence("3", "* any number of times");
        EDGES.sound("delay 1;");
        EDGES.sound("delay 1 or 1;");
        EDGES.sound("delay 1" + " or 1".repeat(120) + ";");
        EDGES.sound("delay 1" + " and 1".repeat(100) + ";");
        EDGES.sound("delay 1" + "+1".repeat(340) + ";");
        EDGES.sound("delay 1" + "*1".repeat(340) + ";");
        CHECK.is("DELAY of 1 and 59 times 1", firstDelay("1" + "+1".repeat(59)), 60);
        CHECK.is("DELAY of 340 tests", firstDelay("1" + "-1".repeat(330) + "+340"), 11);
    }

    private static void oneComparison() {
        EDGES.sentence("3", "NOT: 'not' NOT | SUM [('<' | '=') SUM]");
        CHECK.is("none", firstDelay("7"), 7);
        CHECK.is("one", firstDelay("7 < 8"), 1);
        CHECK.is("one", firstDelay("not 7 = 7"), 0);
        EDGES.fault("delay 7 < 8 < 9;", 1, 12);
        EDGES.fault("delay 7 = 8 = 9;", 1, 12);
        EDGES.fault("delay 7 < 8 = 9;", 1, 12);
        EDGES.fault("delay 7 <= 8;", 1, 9);
        CHECK.is("7 < 6, which is 0, < 1", firstDelay("(7 < 6) < 1"), 1);
    }

    /** What DELAY gives for the first PACKET, sent at TIME 0, kept to 0 to 60. */
    private static int firstDelay(String expr) {
        CircuitCells x = Edges.after("size 1; target 64; delay " + expr + ";", 1);
        return x.count(4) == 0 ? 0 : x.flying(0, 1);
    }

    private static void gives(String expr, int due) {
        CHECK.is("DELAY of «" + expr + "»", firstDelay(expr), due);
    }

    private static void wraps() {
        EDGES.sentence("3", "ints that wrap");
        // half is 2 to the power of 30: the most int is half + (half - 1), the least one 0 - half - half.
        String half = "8192*4*8192*4";
        gives("0 < " + half + " + (" + half + " - 1)", 1);
        gives("0 < " + half + " + " + half, 0);
        gives(half + " + " + half + " < 0", 1);
        gives(half + " + " + half + " = 0 - " + half + " - " + half, 1);
        gives("0 - " + half + " - " + half + " < 0", 1);
        gives("0 < 0 - " + half + " - " + half + " - 1", 1);
        gives("0 < " + half + "*1", 1);
        gives(half + "*2 < 0", 1);
        gives(half + "*3 < 0", 1);
        gives(half + "*4 + 5", 5);
        gives("9999*9999*21 < 9999*9999", 0);
        gives("9999*9999*22 < 9999*9999", 1);
        gives("(0 - " + half + " - " + half + ")/(0-1) < 0", 1);
    }

    private static void cutDown() {
        EDGES.sentence("3", "/ cut down to 0");
        gives("7/2", 3);
        gives("8/2", 4);
        gives("9/2", 4);
        gives("1/2", 0);
        gives("(0-1)/2 + 9", 9);
        gives("(0-2)/2 + 9", 8);
        gives("(0-7)/2 + 9", 6);
        gives("7/(0-2) + 9", 6);
        gives("(0-7)/(0-2)", 3);
    }

    private static void byNothing() {
        EDGES.sentence("3", "by 0 gives 0");
        gives("7/0", 0);
        gives("7/0 + 9", 9);
        gives("0/0 + 9", 9);
        gives("(0-7)/0 + 9", 9);
        gives("7/(1-1) + 9", 9);
        gives("7/1", 7);
        gives("7/(0-1) + 9", 2);
        gives("9 + 7/packet", 9);
    }

    private static void oneOrNothing() {
        EDGES.sentence("3", "tests, not, and, or are 1 or 0 (what isn't 0 holds)");
        gives("3 < 2", 0);
        gives("3 < 3", 0);
        gives("3 < 4", 1);
        gives("3 = 2", 0);
        gives("3 = 3", 1);
        gives("3 = 4", 0);
        gives("not 0", 1);
        gives("not 1", 0);
        gives("not 2", 0);
        gives("not (0-1)", 0);
        gives("2 and 3", 1);
        gives("(0-1) and (0-1)", 1);
        gives("2 and 0", 0);
        gives("0 and 2", 0);
        gives("0 or 0", 0);
        gives("0 or 2", 1);
        gives("2 or 0", 1);
        gives("0 or (0-1)", 1);
        gives("2 or 3", 1);
    }

    /** DUE of the i-th PACKET in flight; the PACKETS are sent at TIME 0, 1, 2 and so on. */
    private static void due(String rules, int... due) {
        CircuitCells x = Edges.after("size 1; target 64; " + rules, due.length);
        for (int i = 0; i < due.length; i++) {
            CHECK.is("DUE of " + i + " by «" + rules + "»", x.flying(i, 1), due[i]);
        }
    }

    private static void packetAhead() {
        EDGES.sentence("3", "'packet' (how many were sent ahead of it)");
        due("delay 20 + 5*packet;", 20, 1 + 25, 2 + 30);
        CircuitCells x = Edges.after("size 1; target 64; delay 20; lost packet < 1 or packet = 2;", 4);
        CHECK.is("lost ones count, too", x.count(3), 2);
        CHECK.is("which", x.flying(0, 0), 1);
        CHECK.is("which", x.flying(1, 0), 3);
    }

    private static void timeOfSending() {
        EDGES.sentence("3", "VALUES, of a PACKET that is sent: 'packet' (how many were sent ahead of it), 'time'");
        due("delay 20 + 5*time;", 20, 1 + 25, 2 + 30);
        CircuitCells x = Edges.after("size 8; target 64; delay 20 + time;", 16);
        CHECK.is("DUE of the one sent at TIME 7", x.flying(0, 1), 7 + 27);
        CHECK.is("DUE of the one sent at TIME 15", x.flying(1, 1), 15 + 35);
    }

    private static void lastAhead() {
        EDGES.sentence("3", "'last' (the DELAY of the one ahead, without STALL; 0 first)");
        due("delay 20 + last;", 20, 1 + 40, 2 + 60, 3 + 60);
        // Kept to 0 to 60, that DELAY is: 61 gives 60, and -1 gives 0.
        due("delay 61 - last;", 60, 1 + 1);
        CircuitCells x = Edges.after("size 1; target 64; delay 20*(packet = 1) + last - (packet = 0);", 2);
        CHECK.is("DUE behind one of DELAY -1, kept to 0", x.flying(0, 1), 1 + 20);
        CircuitCells y = Texts.told("size 1; target 64; delay 20 + last;");
        y.stall(9);
        y.steps(3);
        CHECK.is("DUE with STALL", y.flying(0, 1), 20 + 9);
        CHECK.is("DUE with STALL", y.flying(1, 1), 1 + 40 + 9);
        CHECK.is("DUE with STALL", y.flying(2, 1), 2 + 60 + 9);
    }

    private static void flyingAhead() {
        EDGES.sentence("3", "'flying' (how many are in flight)");
        due("delay 20 + flying;", 20, 1 + 21, 2 + 22);
        CircuitCells y = Edges.after("size 1; target 64; delay 20 + flying; lost packet = 1;", 3);
        CHECK.is("a lost one is not in flight", y.flying(1, 1), 2 + 21);
        // Packet 0 comes at TIME 2, behind what is sent on that STEP.
        CircuitCells x = Edges.after("size 1; target 64; delay 2 + 10*flying;", 4);
        CHECK.is("DUE of packet 2", x.flying(1, 1), 2 + 2 + 10 * 2);
        CHECK.is("DUE of packet 3", x.flying(2, 1), 3 + 2 + 10 * 2);
    }

    private static void cannotStand() {
        EDGES.sentence("3", "1 a TOKEN that can't stand there");
        EDGES.fault("packet;", 1, 0);
        EDGES.fault("4;", 1, 0);
        EDGES.fault("(", 1, 0);
        EDGES.fault("size target;", 1, 5);
        EDGES.fault("size 4 4;", 1, 7);
        EDGES.fault("size 4 target 9;", 1, 7);
        EDGES.fault("gain 4;", 1, 6);
        EDGES.fault("gain 4 4 4;", 1, 9);
        EDGES.fault("word 1 word;", 1, 7);
        EDGES.fault("delay 1 packet;", 1, 8);
        EDGES.fault("delay 1 not 1;", 1, 8);
        EDGES.fault("delay -1;", 1, 6);
        EDGES.fault("delay );", 1, 6);
        EDGES.fault("delay 1);", 1, 7);
        EDGES.fault("delay (1;", 1, 8);
        EDGES.fault("delay 1 + ;", 1, 10);
        EDGES.fault("delay 1 or or 1;", 3, 11);
        EDGES.fault("delay 1 1;", 1, 8);
    }

    private static void isNoToken() {
        EDGES.sentence("3", "a TOKEN that can't stand there, or is none");
        EDGES.fault("?", 1, 0);
        EDGES.fault("size ?;", 1, 5);
        EDGES.fault("size 4?", 1, 6);
        EDGES.fault("size 4;?", 1, 7);
        EDGES.fault("word 1 ?;", 1, 7);
        EDGES.fault("delay ?;", 1, 6);
        EDGES.fault("delay 1 ?;", 1, 8);
        EDGES.fault("delay (?);", 1, 7);
        EDGES.fault("delay ((((((?", 1, 12);
        EDGES.fault("delay not not not not not not ?", 1, 30);
    }

    private static void endsTooSoon() {
        EDGES.sentence("3", "(the text's length where it ends too soon)");
        String[] parts = {"size", "size 4", "target ", "gain 1", "gain 1 ", "offset -", "word", "word 1\n", "delay",
            "delay 1", "delay 1 or", "delay 1 and ", "delay not", "delay 1 <", "delay 1 -", "delay 1 /  ", "delay (",
            "delay (1", "delay ((((((", "delay not not not not not not", "size 4; lost", "size 4; lost 1"};
        for (String part : parts) {
            EDGES.fault(part, 1, part.length());
        }
        EDGES.sound("size 4;");
    }

    private static void tooManyDigits() {
        EDGES.sentence("3", "a NUMBER of 5 digits or more");
        EDGES.sound("size 0004;");
        EDGES.fault("size 00004;", 2, 5);
        EDGES.fault("size 000004;", 2, 5);
        EDGES.fault("word 1 00001;", 2, 7);
        EDGES.fault("offset -00001;", 2, 8);
        EDGES.sound("delay 1000;");
        EDGES.fault("delay 10000;", 2, 6);
        EDGES.fault("delay 99999999999999999999;", 2, 6);
        EDGES.fault("delay 1 + 00000;", 2, 10);
        EDGES.fault("lost (00000);", 2, 6);
    }

    private static void notAsTold() {
        EDGES.sentence("3", "or (not in an EXPR) not as told");
        String[] ahead = {"size ", "target ", "every ", "frame "};
        int[] most = {8, 64, 16, 8};
        for (int i = 0; i < ahead.length; i++) {
            EDGES.fault(ahead[i] + "0;", 2, ahead[i].length());
            EDGES.sound(ahead[i] + "1;");
            EDGES.sound(ahead[i] + most[i] + ";");
            EDGES.fault(ahead[i] + (most[i] + 1) + ";", 2, ahead[i].length());
            EDGES.fault(ahead[i] + "9999;", 2, ahead[i].length());
        }
        EDGES.fault("gain 10 0;", 2, 5);
        EDGES.fault("gain 0 10;", 2, 7);
        EDGES.fault("word 256;", 2, 5);
        EDGES.fault("offset 100;", 2, 7);
        EDGES.fault("offset -100;", 2, 8);
        EDGES.sound("delay 0;");
        EDGES.sound("delay 61;");
        EDGES.sound("delay 9999; lost 9999;");
    }

    private static void seventeenth() {
        EDGES.sentence("3", "the 17th of a WORD");
        String fifteen = "word 1 2 3 4 5 6 7 8 9 0 1 2 3 4 5";
        EDGES.sound(fifteen + ";");
        EDGES.sound(fifteen + " 6;");
        EDGES.fault(fifteen + " 6 7;", 2, fifteen.length() + 3);
        EDGES.fault(fifteen + " 6 7 8;", 2, fifteen.length() + 3);
        EDGES.fault(fifteen + " 6 12345;", 2, fifteen.length() + 3);
        EDGES.fault(fifteen + " 6 x;", 1, fifteen.length() + 3);
        EDGES.fault(fifteen + " 6", 1, fifteen.length() + 2);
    }

    private static void tooDeep() {
        EDGES.sentence("3", "the first TOKEN of an EXPR within 6 others (a NUMBER, any word, a parenthesis)");
        for (String part : new String[] {"1", "packet", "not 1", "(1)"}) {
            String four = "((((" + part + "))))";
            EDGES.sound("delay " + four + ";");
            if (!part.equals("(1)")) {
                EDGES.sound("delay (" + four + ");");
            } else {
                EDGES.fault("delay (" + four + ");", 2, 12);
            }
            EDGES.fault("delay ((" + four + "));", 2, 12);
            EDGES.fault("lost 1 + ((" + four + "));", 2, 15);
        }
        EDGES.fault("delay ((((((foo", 2, 12);
        EDGES.fault("delay ((((((or", 2, 12);
        EDGES.fault("delay ((((((12345", 2, 12);
        EDGES.fault("delay (((((((", 2, 12);
        EDGES.fault("delay (((((()", 1, 12);
        EDGES.fault("delay ((((((+", 1, 12);
        EDGES.fault("delay (((((1+(2", 2, 14);
        EDGES.sound("delay (((((1)))))+(((((2)))))*(((((3)))));");
    }

    private static void tooManyNots() {
        EDGES.sentence("3", "the seventh 'not' side by side");
        EDGES.sound("delay " + "not ".repeat(5) + "1;");
        EDGES.sound("delay " + "not ".repeat(6) + "1;");
        EDGES.fault("delay " + "not ".repeat(7) + "1;", 2, 6 + 4 * 6);
        EDGES.fault("delay " + "not ".repeat(8) + "1;", 2, 6 + 4 * 6);
        EDGES.sound("delay " + "not ".repeat(6) + "(" + "not ".repeat(6) + "1) and " + "not ".repeat(6) + "1;");
        EDGES.fault("delay 1 or " + "not ".repeat(7) + "1;", 2, 11 + 4 * 6);
        EDGES.fault("delay (((((" + "not ".repeat(7) + "1)))));", 2, 11 + 4 * 6);
        gives("not ".repeat(5) + "5", 0);
        gives("not ".repeat(6) + "5", 1);
    }

    private static void noValue() {
        EDGES.sentence("3", "3 any word where a PART must stand that is no VALUE");
        for (String word : new String[] {"x", "or", "and", "size", "delay", "lost", "packe", "packett", "times"}) {
            EDGES.fault("delay " + word + ";", 3, 6);
            EDGES.fault("lost 1 + " + word + ";", 3, 9);
            EDGES.fault("lost (" + word + ");", 3, 6);
            EDGES.fault("lost not " + word + ";", 3, 9);
        }
        EDGES.fault("delay 1 + not 1;", 3, 10);
        EDGES.fault("delay 1 < not 1;", 3, 10);
        for (String value : new String[] {"packet", "time", "last", "flying"}) {
            EDGES.sound("delay " + value + ";lost 1 + " + value + ";");
        }
    }

    private static void toldAgain() {
        EDGES.sentence("3", "5 any of these CLAUSES told again (at its word)");
        for (String clause : CLAUSES) {
            EDGES.sound(clause);
            EDGES.fault(clause + clause, 5, clause.length());
            EDGES.fault(clause + "\n" + clause.substring(0, clause.indexOf(' ')), 5, clause.length() + 1);
        }
        String all = String.join("", CLAUSES);
        EDGES.sound(all);
        for (String clause : CLAUSES) {
            EDGES.fault(all + clause, 5, all.length());
        }
    }

    private static void firstAlongTheText() {
        EDGES.sentence("3", "FAULTS, the first along the text");
        EDGES.fault("size 9; target 65; x", 2, 5);
        EDGES.fault("size 8; target 65; x", 2, 15);
        EDGES.fault("size 8; target 64; x", 1, 19);
        EDGES.fault("delay foo + 12345;", 3, 6);
        EDGES.fault("delay 12345 + foo;", 2, 6);
        EDGES.fault("size 4; size 9;", 5, 8);
        EDGES.fault("size 9; size 4;", 2, 5);
    }

    private static void firstByte() {
        EDGES.sentence("3", "at a TOKEN's first byte");
        EDGES.fault("   sizes 4;", 1, 3);
        EDGES.fault("target \n 6500;", 2, 9);
        EDGES.fault("delay  123456;", 2, 7);
        EDGES.fault("delay  packets;", 3, 7);
        EDGES.fault("size 4; \n size 5;", 5, 10);
    }

    private static void theLeast() {
        EDGES.sentence("3", "of one TOKEN the least");
        // 1 and 2, 1 and 5, 2 and 3, 3 and 5.
        EDGES.fault("size 4 12345;", 1, 7);
        EDGES.fault("delay 1 12345;", 1, 8);
        EDGES.fault("size 4 size 5;", 1, 7);
        EDGES.fault("size size 5;", 1, 5);
        EDGES.fault("delay ((((((foo", 2, 12);
        EDGES.fault("size 4; delay size;", 3, 14);
    }

    private static void newObject() {
        EDGES.sentence("1", "`CircuitCells()`: A LINE of an empty TEXT.");
        CircuitCells x = new CircuitCells();
        CHECK.is("STATUS", x.count(20) + x.count(21) + x.count(22), 0);
        CHECK.is("bytes of the tape", x.count(19), 0);
        CHECK.is("fault()", x.fault(), -1);
        int[] sets = {4, 12, 4, 1, 8, 0, 1, 1, 0, 0, 0, 0, 0, 0, 0};
        for (int i = 0; i < sets.length; i++) {
            CHECK.is("set(" + i + ")", x.set(i), sets[i]);
        }
        for (int i = 0; i < 19; i++) {
            CHECK.is("count(" + i + ")", x.count(i), i == 13 ? 10000 : 0);
        }
        EDGES.unchanged("a new object", x, Texts.told(""), -1);
        CHECK.illegal("no tape: line(1)", () -> new CircuitCells().line(1));
        CHECK.is("an empty TEXT", new CircuitCells().line(0), 0);
    }

    private static void feedUpTo700() {
        EDGES.sentence("2", "Twenty bytes come behind the tape, of each number the highest first: how many it has");
        CircuitCells x = new CircuitCells();
        for (int bytes = 20; bytes <= 700; bytes += 20) {
            CHECK.is("feed()", x.feed(bytes, 0, -1, 0, 0), bytes);
            CHECK.is("count(19)", x.count(19), bytes);
        }
    }

    private static void feedHighestFirst() {
        EDGES.sentence("2", "of each number the highest first");
        // One byte of the twenty, here or there, is no blank: the FAULT is at its place. The edges of a byte: 0, 127, 128, 255.
        for (int place = 0; place < 20; place++) {
            for (int odd : new int[] {0, 127, 128, 255}) {
                int[] numbers = new int[5];
                for (int i = 0; i < 20; i++) {
                    numbers[i / 4] = numbers[i / 4] << 8 | (i == place ? odd : 32);
                }
                CircuitCells x = new CircuitCells();
                x.feed(numbers[0], numbers[1], numbers[2], numbers[3], numbers[4]);
                CHECK.is("line(" + place + ")", x.line(place), 0);
                x.feed(numbers[0], numbers[1], numbers[2], numbers[3], numbers[4]);
                CHECK.is("line(20)", x.line(20), 1);
                CHECK.is("its place", x.fault(), place);
            }
        }
    }

    private static CircuitCells fed(int bytes, String ending) {
        CircuitCells x = Edges.after("size 3;", 5);
        Texts.feed(x, " ".repeat(bytes - ending.length()) + ending);
        return x;
    }

    private static void feedRefused() {
        EDGES.sentence("2", "NONE, and none come, if it would have more than 700");
        CHECK.is("660 and 20", fed(660, "").feed(0, 0, 0, 0, 0), 680);
        CHECK.is("680 and 20", fed(680, "").feed(0, 0, 0, 0, 0), 700);
        EDGES.refused("700 and 20", () -> fed(700, ""), x -> x.feed(0, 0, 0, 0, 0), -1, -1);
        CircuitCells x = fed(700, "size 7;");
        x.feed(-1, -1, -1, -1, -1);
        CHECK.is("line(700), and none came", x.line(700), 0);
        CHECK.is("SIZE", x.set(0), 7);
        CHECK.is("feed() behind it", x.feed(0, 0, 0, 0, 0), 20);
    }

    private static void lineOfTheTape() {
        EDGES.sentence("3", "The tape's first n bytes (it is empty then) are a LINE, all anew");
        String text = "size 2; target 5; x ";
        // What is behind the first n counts for nothing: the place of the FAULT, NONE without.
        int[] due = {-1, 0, 0, 0, 4, 5, 6, -1, -1, 8, 8, 8, 8, 8, 14, 15, 16, -1, -1, 18, 18};
        for (int n = 0; n <= 20; n++) {
            CircuitCells x = Texts.told("size 3; target 7; every 5;");
            x.steps(30);
            Texts.feed(x, text);
            boolean isTold = due[n] < 0;
            CHECK.is("line(" + n + ")", x.line(n), isTold ? 0 : 1);
            CHECK.is("fault()", x.fault(), due[n]);
            CHECK.is("SIZE", x.set(0), isTold ? n < 7 ? 4 : 2 : 3);
            CHECK.is("TARGET", x.set(1), isTold ? n < 17 ? 12 : 5 : 7);
            CHECK.is("EVERY", x.set(4), isTold ? 8 : 5);
            CHECK.is("TIME", x.count(0), isTold ? 0 : 30);
        }
        CircuitCells y = new CircuitCells();
        Texts.feed(y, "target 12;  ");
        CHECK.is("line(8)", y.line(8), 1);
        CHECK.is("the digit behind it is none of it", y.fault(), 8);
    }

    /** An object of which all counts are more than 0, two LINES ahead. */
    private static CircuitCells used() {
        String clauses = "target 64; gain 9 9; every 3; offset 7; frame 5; word 1 2 3; lost 300 < packet;";
        CircuitCells x = Texts.told("size 1; delay 7 + last/2;" + clauses);
        x.steps(50);
        Texts.tell(x, "size 1; delay 2 + 7*(packet - packet/5*5 = 1);" + clauses);
        Edges.go(x, 75);
        x.turn(2, 16);
        Edges.go(x, 400);
        x.turn(1, 1);
        x.stall(9);
        x.lose(5);
        x.image();
        for (int i : new int[] {3, 5, 6, 7, 8, 14, 15, 16, 17}) {
            CHECK.is("count(" + i + ") is more than 0", x.count(i) > 0, true);
        }
        return x;
    }

    private static void lineAllAnew() {
        EDGES.sentence("3", "are a LINE, all anew");
        for (String text : new String[] {"", "delay 5 + last;", "size 1; target 1; delay 0; lost packet;"}) {
            CircuitCells x = used();
            CHECK.is("line()", Texts.tell(x, text), 0);
            EDGES.unchanged("«" + text + "» behind another", x, Texts.told(text), -1);
            CircuitCells y = used();
            Texts.tell(y, text);
            Edges.go(y, 90);
            EDGES.unchanged("«" + text + "» behind another, 90 STEPS on", y, Edges.after(text, 90), -1);
        }
    }

    private static void lineRulesAnew() {
        EDGES.sentence("3", "Rules DELAY, LOST");
        for (String rule : new String[] {"not 0", "not not 1", "9 < 1 or 1", "1 + 1", "0 = 0"}) {
            CircuitCells x = new CircuitCells();
            for (int i = 0; i < 3; i++) {
                Texts.tell(x, "size 1; target 64; delay 40*(" + rule + "); lost " + rule + ";");
                x.steps(1);
                CHECK.is("lost by " + rule, x.count(3), 1);
            }
            Texts.tell(x, "size 1; target 64; delay 20; lost 0;");
            x.steps(1);
            CHECK.is("lost by 0, anew", x.count(3), 0);
            CHECK.is("DUE by 20, anew", x.flying(0, 1), 20);
            Texts.tell(x, "size 1; target 64;");
            x.steps(1);
            CHECK.is("lost by none, anew", x.count(3), 0);
            CHECK.is("DUE by none, anew", x.flying(0, 1), 3);
        }
    }

    private static void lineEmptiesTheTape() {
        EDGES.sentence("3", "(it is empty then)");
        for (int n : new int[] {0, 1, 19, 20}) {
            CircuitCells x = new CircuitCells();
            Texts.feed(x, " ".repeat(20));
            CHECK.is("line(" + n + ")", x.line(n), 0);
            CHECK.is("bytes of the tape", x.count(19), 0);
            CHECK.illegal("line(1)", () -> x.line(1));
            CHECK.is("feed()", x.feed(0x73697a65, 0x20373b20, 0x20202020, 0x20202020, 0x20202020), 20);
            CHECK.is("line(20)", x.line(20), 0);
            CHECK.is("SIZE", x.set(0), 7);
        }
        CircuitCells y = new CircuitCells();
        Texts.feed(y, "size 9; size 8;");
        CHECK.is("a FAULT", y.line(7), 2);
        CHECK.is("bytes of the tape", y.count(19), 0);
    }

    private static void lineBeyondTheTape() {
        EDGES.sentence("3", "IllegalArgumentException: the tape has not so many, n below 0 (nothing changes).");
        Edges.Maker maker = () -> {
            CircuitCells x = Edges.after("size 3; target 5; offset 9;", 20);
            x.note(1, 2);
            x.image();
            x.lose(2);
            Texts.tell(x, "foo");
            Texts.feed(x, "size 5;");
            return x;
        };
        for (int n : new int[] {-1, 21, Integer.MIN_VALUE, Integer.MAX_VALUE}) {
            EDGES.illegal("line(" + n + ")", maker, x -> x.line(n));
        }
        CircuitCells x = maker.make();
        CHECK.illegal("line(21)", () -> x.line(21));
        CHECK.is("line(7)", x.line(7), 0);
        CHECK.is("SIZE", x.set(0), 5);
        CircuitCells y = new CircuitCells();
        CHECK.illegal("an empty tape: line(-1)", () -> y.line(-1));
        CHECK.is("an empty tape: line(0)", y.line(0), 0);
        CHECK.illegal("an empty tape: line(1)", () -> y.line(1));
        CHECK.is("line(20) of 20", fed(20, "").line(20), 0);
        CHECK.is("line(19) of 20", fed(20, "").line(19), 0);
    }

    private static CircuitCells busy() {
        CircuitCells x = Edges.after("size 2; target 3; offset 7; delay 9;", 20);
        x.note(3, 4);
        x.note(61, 4);
        x.turn(0, 30);
        x.turn(1, 2);
        x.turn(2, 9);
        x.stall(4);
        x.lose(3);
        x.lose(3);
        Texts.tell(x, "foo");
        x.image();
        x.steps(15);
        return x;
    }

    private static void lineWithoutFault() {
        EDGES.sentence("3", "0 (STATUS stays)");
        CircuitCells x = busy();
        CHECK.is("line()", Texts.tell(x, "size 5;"), 0);
        for (int i = 20; i < 23; i++) {
            CHECK.is("STATUS " + (i - 20), x.count(i), 1);
        }
    }

    private static void lineWithFault() {
        EDGES.sentence("3", "or the FAULT (all else stays, but STATUS)");
        EDGES.refused("a FAULT 1", EdgesOfTextTest::busy, x -> Texts.tell(x, "size 5"), 1, 0);
        EDGES.refused("a FAULT 2", EdgesOfTextTest::busy, x -> Texts.tell(x, "word 1 2 3; delay 9; size 9;"), 2, 0);
        EDGES.refused("a FAULT 3", EdgesOfTextTest::busy, x -> Texts.tell(x, "lost 1; delay foo;"), 3, 0);
        EDGES.refused("a FAULT 5", EdgesOfTextTest::busy, x -> Texts.tell(x, "delay 1; lost 1; frame 8; delay 7;"), 5, 0);
        CircuitCells x = busy();
        for (int i = 2; i < 5; i++) {
            Texts.tell(x, "size");
            CHECK.is("STATUS 0", x.count(20), i);
        }
    }

    private static void lineTakesAway() {
        EDGES.sentence("3", "ACTS, what is NOTED, the image are gone.");
        CircuitCells x = busy();
        Texts.tell(x, "size 5;");
        CHECK.is("ACTS", x.count(17), 0);
        CHECK.is("undo()", x.undo(), -1);
        CHECK.is("NOTED", x.count(18), 0);
        CHECK.is("restore()", x.restore(), false);
        List<Integer> sizes = new ArrayList<>(List.of(x.set(0), x.set(8), x.set(9), x.set(10), x.set(5), x.set(1)));
        CHECK.is("all anew", sizes.equals(List.of(5, 0, 0, 0, 0, 12)), true);
        CHECK.is("note()", x.note(0, 0), 1);
        CircuitCells y = busy();
        y.line(0);
        EDGES.unchanged("an empty TEXT, STATUS set aside", y, busyAndAnew(), -1);
    }

    private static CircuitCells busyAndAnew() {
        CircuitCells x = new CircuitCells();
        x.note(61, 4);
        x.lose(0);
        Texts.tell(x, "foo");
        Texts.tell(x, "");
        return x;
    }

    private static void placeOfTheLatest() {
        EDGES.sentence("4", "The place of the latest line()'s FAULT");
        CircuitCells x = new CircuitCells();
        Texts.tell(x, "x");
        CHECK.is("the least place", x.fault(), 0);
        Texts.tell(x, "size 4; x");
        CHECK.is("the latest", x.fault(), 8);
        x.steps(3);
        x.image();
        Texts.tell(x, " x");
        x.restore();
        x.undo();
        CHECK.is("the latest", x.fault(), 1);
        CHECK.illegal("line(1) of no tape", () -> x.line(1));
        CHECK.is("a line() that throws changes nothing", x.fault(), 1);
        CircuitCells y = new CircuitCells();
        Texts.feed(y, " ".repeat(699) + "x");
        y.line(700);
        CHECK.is("the last byte of 700", y.fault(), 699);
        Texts.feed(y, " ".repeat(698) + "lo");
        y.line(700);
        CHECK.is("the last word of 700", y.fault(), 698);
        Texts.feed(y, " ".repeat(696) + "lost");
        y.line(700);
        CHECK.is("the length, 700", y.fault(), 700);
    }

    private static void noPlace() {
        EDGES.sentence("4", "NONE without.");
        CircuitCells x = new CircuitCells();
        CHECK.is("no line() yet", x.fault(), -1);
        Texts.tell(x, "x");
        CHECK.is("a FAULT", x.fault(), 0);
        Texts.tell(x, "size 4;");
        CHECK.is("none", x.fault(), -1);
    }
}
