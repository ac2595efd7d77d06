/** Promises 1 to 4: a new object, the tape, the language of lines with its faults. */
public final class LineTest {
    private static final Check CHECK = new Check();
    private static final int[] NEW_SET = {4, 12, 4, 1, 8, 0, 1, 1, 0, 0, 0, 0, 0, 0, 0};

    private LineTest() {
    }

    public static void main(String[] args) {
        newObject();
        feed();
        feedBytes();
        lineArguments();
        lineAnew();
        rulesAnew();
        countsAnew();
        lineWithFault();
        settings();
        words();
        faultsOfSettings();
        faultsOfTokens();
        faultsOfExpressions();
        faultsOfDepth();
        faultPlace();
        expressions();
        values();
        lostRule();
        CHECK.end();
    }

    private static void isNew(CircuitCells x) {
        for (int i = 0; i < 20; i++) {
            CHECK.is("count(" + i + ")", x.count(i), i == 13 ? 10000 : 0);
        }
        for (int i = 0; i < NEW_SET.length; i++) {
            CHECK.is("set(" + i + ")", x.set(i), NEW_SET[i]);
        }
    }

    private static void newObject() {
        CHECK.begin("1 new object");
        CircuitCells x = new CircuitCells();
        CHECK.is("NONE", CircuitCells.NONE, -1);
        isNew(x);
        for (int i = 20; i < 23; i++) {
            CHECK.is("count(" + i + ")", x.count(i), 0);
        }
        CHECK.is("fault()", x.fault(), -1);
        CHECK.is("undo()", x.undo(), -1);
        CHECK.is("restore()", x.restore(), false);
        x.steps(15);
        CHECK.is("the first octet of the word 85", x.played(0, 0), 85);
    }

    private static void feed() {
        CHECK.begin("2 feed");
        CircuitCells x = new CircuitCells();
        for (int i = 1; i <= 35; i++) {
            CHECK.is("feed", x.feed(0, 0, 0, 0, 0), 20 * i);
        }
        CHECK.is("feed beyond 700", x.feed(0, 0, 0, 0, 0), -1);
        CHECK.is("bytes", x.count(19), 700);
        for (int i = 20; i < 23; i++) {
            CHECK.is("STATUS", x.count(i), 0);
        }
        String text = " ".repeat(693) + "size 7;";
        CircuitCells y = new CircuitCells();
        CHECK.is("feed 700", Texts.feed(y, text), 700);
        CHECK.is("feed beyond 700", y.feed(-1, -1, -1, -1, -1), -1);
        CHECK.is("line(700)", y.line(700), 0);
        CHECK.is("SIZE", y.set(0), 7);
        CHECK.is("feed anew", y.feed(0, 0, 0, 0, 0), 20);
    }

    private static void feedBytes() {
        CHECK.begin("2 feed, the highest first");
        CircuitCells x = new CircuitCells();
        CHECK.is("feed", x.feed(0x73697a65, 0x20373b0a, 0x20202020, 0x20202020, 0x202020e9), 20);
        CHECK.is("line(19)", x.line(19), 0);
        CHECK.is("SIZE", x.set(0), 7);
        x.feed(0x73697a65, 0x20373b0a, 0x20202020, 0x20202020, 0x202020e9);
        CHECK.is("line(20)", x.line(20), 1);
        CHECK.is("the last byte", x.fault(), 19);
        x.feed(0xff202020, 0, 0, 0, 0);
        CHECK.is("line(4)", x.line(4), 1);
        CHECK.is("the first byte", x.fault(), 0);
    }

    private static void lineArguments() {
        CHECK.begin("3 line, arguments");
        CircuitCells x = new CircuitCells();
        CHECK.illegal("line(1)", () -> x.line(1));
        Texts.tell(x, "size;");
        Texts.feed(x, "size 5;");
        x.steps(3);
        CHECK.illegal("line(21)", () -> x.line(21));
        CHECK.illegal("line(-1)", () -> x.line(-1));
        CHECK.illegal("line(least)", () -> x.line(Integer.MIN_VALUE));
        CHECK.illegal("line(most)", () -> x.line(Integer.MAX_VALUE));
        CHECK.is("bytes", x.count(19), 20);
        CHECK.is("fault()", x.fault(), 4);
        CHECK.is("TIME", x.count(0), 3);
        CHECK.is("STATUS 0", x.count(20), 1);
        CHECK.is("line(7)", x.line(7), 0);
        CHECK.is("SIZE", x.set(0), 5);
        CHECK.is("bytes", x.count(19), 0);
        CHECK.is("line(0)", x.line(0), 0);
        CHECK.is("SIZE", x.set(0), 4);
    }

    private static CircuitCells busy() {
        CircuitCells x = Texts.told("size 2; target 3; offset 7;");
        x.steps(20);
        x.note(3, 4);
        x.lose(3);
        x.stall(4);
        x.turn(0, -5);
        x.turn(1, 2);
        x.turn(2, 9);
        x.image();
        x.lose(21);
        x.note(61, 0);
        return x;
    }

    private static void lineAnew() {
        CHECK.begin("3 line, all anew");
        CircuitCells x = busy();
        CHECK.is("line", Texts.tell(x, ""), 0);
        isNew(x);
        CHECK.is("STATUS 0", x.count(20), 0);
        CHECK.is("STATUS 1", x.count(21), 1);
        CHECK.is("STATUS 2", x.count(22), 1);
        CHECK.is("restore()", x.restore(), false);
        CHECK.is("undo()", x.undo(), -1);
        CHECK.noElement("played", () -> x.played(0, 0));
        CHECK.noElement("sample", () -> x.sample(0));
        CHECK.noElement("flying", () -> x.flying(0, 0));
        for (int i = 0; i < 64; i++) {
            CHECK.is("slot", x.slot(i), -1);
        }
        CircuitCells fresh = new CircuitCells();
        x.steps(50);
        fresh.steps(50);
        for (int i = 0; i < 15; i++) {
            CHECK.is("set(" + i + ") as of a new object", x.set(i), fresh.set(i));
            CHECK.is("count(" + i + ") as of a new object", x.count(i), fresh.count(i));
        }
        Texts.tell(x, "word 1 2 3; frame 3; every 3;");
        Texts.tell(x, "target 9;");
        CHECK.is("the word's length anew", x.set(7), 1);
        CHECK.is("FRAME anew", x.set(6), 1);
        CHECK.is("EVERY anew", x.set(4), 8);
        x.steps(50);
        CHECK.is("the word anew", x.played(x.count(7) - 1, 0), 85);
    }

    private static void rulesAnew() {
        CHECK.begin("3 line, rules anew");
        CircuitCells x = Texts.told("size 1; delay 30; lost packet = 1;");
        x.steps(3);
        CHECK.is("line", Texts.tell(x, "size 1; delay 5 + last; lost packet = 0;"), 0);
        x.steps(3);
        CHECK.is("last is 0 first", x.flying(0, 1), 1 + 10);
        CHECK.is("lost", x.count(3), 1);
        for (int i = 0; i < 3; i++) {
            CHECK.is("line", Texts.tell(x, "size 1;"), 0);
            x.steps(2);
            CHECK.is("none lost", x.count(3), 0);
            CHECK.is("DELAY 3", x.flying(0, 1), 3);
        }
        Texts.tell(x, "size 1; delay 7; lost 1; x");
        Texts.tell(x, "size 1;");
        x.steps(2);
        CHECK.is("a faulty text's rules are gone: none lost", x.count(3), 0);
        CHECK.is("DELAY 3", x.flying(0, 1), 3);
    }

    private static void countsAnew() {
        CHECK.begin("3 line, counts anew");
        CircuitCells x = Texts.told("size 1; target 64; delay 0;");
        x.steps(50);
        x.steps(20);
        x.turn(2, 16);
        x.steps(5);
        CHECK.is("LATE, BEYOND, WRONG", x.count(5) > 0 && x.count(6) > 0 && x.count(15) > 0, true);
        Texts.tell(x, "");
        isNew(x);
        Texts.tell(x, "size 1; target 1; delay 0; lost packet;");
        x.steps(50);
        x.steps(20);
        CHECK.is("a RESET", x.count(14), 1);
        Texts.tell(x, "");
        isNew(x);
        CHECK.is("none PLAYED ever", x.spans(1, -1), 0);
    }

    private static void lineWithFault() {
        CHECK.begin("3 line, a fault");
        CircuitCells x = busy();
        int[] sets = new int[15];
        int[] counts = new int[19];
        for (int i = 0; i < 15; i++) {
            sets[i] = x.set(i);
        }
        for (int i = 0; i < 19; i++) {
            counts[i] = x.count(i);
        }
        CHECK.is("line", Texts.tell(x, "size 8; word 9 9; delay 9; target 65;"), 2);
        for (int i = 0; i < 15; i++) {
            CHECK.is("set(" + i + ")", x.set(i), sets[i]);
        }
        for (int i = 0; i < 19; i++) {
            CHECK.is("count(" + i + ")", x.count(i), counts[i]);
        }
        CHECK.is("bytes", x.count(19), 0);
        CHECK.is("STATUS 0", x.count(20), 1);
        CHECK.is("STATUS 1", x.count(21), 1);
        CHECK.is("STATUS 2", x.count(22), 1);
        CHECK.is("line", Texts.tell(x, "offset 1"), 1);
        CHECK.is("STATUS 0", x.count(20), 2);
        x.steps(50);
        CircuitCells y = busy();
        y.steps(50);
        for (int i = 0; i < 128 && i < y.count(7); i++) {
            CHECK.is("played(" + i + ")", x.played(i, 0), y.played(i, 0));
        }
        CHECK.is("undo()", x.undo(), 6);
        CHECK.is("restore()", x.restore(), true);
    }

    private static int faultOf(String text) {
        CircuitCells x = new CircuitCells();
        int fault = Texts.tell(x, text);
        return fault == 0 ? 0 : 1000 * fault + x.fault();
    }

    private static void sound(String text) {
        CHECK.is("«" + text + "»", faultOf(text), 0);
    }

    private static void fault(String text, int fault, int place) {
        CHECK.is("«" + text + "» (1000 FAULT, and its place)", faultOf(text), 1000 * fault + place);
    }

    private static void settings() {
        CHECK.begin("3 settings");
        CircuitCells x = Texts.told("size 8;target 64;gain 9 8;every 16;offset 99;frame 8;word 0 255;");
        int[] due = {8, 64, 9, 8, 16, 99, 8, 2};
        for (int i = 0; i < due.length; i++) {
            CHECK.is("set(" + i + ")", x.set(i), due[i]);
        }
        x = Texts.told("word 0 ; frame\n1;offset -99;every 1;\n\ngain 0 9;target 0001;size1;");
        due = new int[] {1, 1, 0, 9, 1, -99, 1, 1};
        for (int i = 0; i < due.length; i++) {
            CHECK.is("set(" + i + ")", x.set(i), due[i]);
        }
        x = Texts.told("offset - 0; target 20;");
        CHECK.is("OFFSET -0", x.set(5), 0);
        x = Texts.told(" offset -\n7 ; ");
        CHECK.is("OFFSET - 7", x.set(5), -7);
    }

    private static void words() {
        CHECK.begin("1 octets of the far end");
        CircuitCells x = Texts.told("size 1; target 1; delay 0; gain 0 0; word 10 20 255;");
        x.steps(6);
        int[] due = {10, 21, 1, 13, 24, 4};
        for (int i = 0; i < due.length; i++) {
            CHECK.is("octet " + i, x.played(5 - i, 0), due[i]);
        }
        StringBuilder text = new StringBuilder("word");
        for (int i = 0; i < 16; i++) {
            text.append(' ').append(100 + 2 * i);
        }
        x = Texts.told(text + ";size 1; target 1; delay 0; gain 0 0;");
        CHECK.is("the word's length", x.set(7), 16);
        x.steps(17);
        CHECK.is("octet 15", x.played(1, 0), 130 + 15);
        CHECK.is("octet 16", x.played(0, 0), 100 + 16);
        x = Texts.told("size 1; target 1; delay 0; gain 0 0;");
        x.steps(50);
        x.steps(50);
        x.steps(50);
        x.steps(50);
        CHECK.is("octet 171", x.played(28, 0), 0);
        CHECK.is("octet 170", x.played(29, 0), 255);
    }

    private static void faultsOfSettings() {
        CHECK.begin("3 faults of settings");
        fault("size 0;", 2, 5);
        fault("size 9;", 2, 5);
        fault("size  12345;", 2, 6);
        fault("size 00001;", 2, 5);
        fault("target 0;", 2, 7);
        fault("target 65;", 2, 7);
        fault("gain 10 1;", 2, 5);
        fault("gain 9 10;", 2, 7);
        fault("gain 9;", 1, 6);
        fault("gain 1 2 3;", 1, 9);
        fault("every 0;", 2, 6);
        fault("every 17;", 2, 6);
        fault("offset 100;", 2, 7);
        fault("offset -100;", 2, 8);
        fault("offset --1;", 1, 8);
        fault("offset -;", 1, 8);
        fault("offset + 1;", 1, 7);
        fault("frame 0;", 2, 6);
        fault("frame 9;", 2, 6);
        fault("word;", 1, 4);
        fault("word 256;", 2, 5);
        fault("word 1 2 256;", 2, 9);
        fault("word 1 x;", 1, 7);
        sound("word 1 2 3 4 5 6 7 8 9 0 1 2 3 4 5 6;");
        fault("word 1 2 3 4 5 6 7 8 9 0 1 2 3 4 5 6 7;", 2, 37);
        fault("word 1 2 3 4 5 6 7 8 9 0 1 2 3 4 5 6 99999;", 2, 37);
        fault("word 1 2 3 4 5 6 7 8 9 0 1 2 3 4 5 6 x;", 1, 37);
        String[] clauses = {"size 4;", "target 9;", "gain 1 1;", "every 2;", "offset -3;", "frame 2;", "word 1 2;", "delay 1;", "lost 0;"};
        for (String clause : clauses) {
            fault(clause + clause, 5, clause.length());
            fault(clause + "size 9999;" + clause, clause == clauses[0] ? 5 : 2, clause.length() + (clause == clauses[0] ? 0 : 5));
            fault(clause + " " + clause.substring(0, clause.indexOf(' ')), 5, clause.length() + 1);
        }
        fault("size 9; x", 2, 5);
    }

    private static void faultsOfTokens() {
        CHECK.begin("3 faults of tokens");
        sound("");
        sound(" \n ");
        fault("x", 1, 0);
        fault("  x", 1, 2);
        fault(";", 1, 0);
        fault("size 4;;", 1, 7);
        fault("size", 1, 4);
        fault("size  ", 1, 6);
        fault("size 4", 1, 6);
        fault("size 4\n\n", 1, 8);
        fault("size x;", 1, 5);
        fault("size -1;", 1, 5);
        fault("size 4 4;", 1, 7);
        fault("size 4 12345;", 1, 7);
        fault("sizes 4;", 1, 0);
        fault("Size 4;", 1, 0);
        fault("sizE 4;", 1, 0);
        fault("sizeE 4;", 1, 4);
        fault("size\t4;", 1, 4);
        fault("\u00e9", 1, 0);
        fault("size 4\u0000;", 1, 6);
        fault("size 4.", 1, 6);
        fault("4;", 1, 0);
        fault("packet;", 1, 0);
        fault("not 1;", 1, 0);
        fault("(size 4);", 1, 0);
        fault("size (4);", 1, 5);
        fault("size 4+1;", 1, 6);
        String[] wholes = {"size 4;", "target 9;", "gain 1 1;", "every 2;", "offset -3;", "frame 2;", "word 1;", "delay(1+2);", "lost not time;"};
        for (String whole : wholes) {
            sound(whole);
            for (int i = 1; i < whole.length(); i++) {
                char c = whole.charAt(i - 1);
                boolean mid = Character.isLetter(c) && Character.isLetter(whole.charAt(i));
                String part = whole.substring(0, i);
                if (!mid) {
                    fault(part, 1, i);
                }
            }
        }
        fault("targe", 1, 0);
    }

    private static void faultsOfExpressions() {
        CHECK.begin("3 faults of expressions");
        fault("delay;", 1, 5);
        fault("delay 1 2;", 1, 8);
        fault("delay 1 packet;", 1, 8);
        fault("delay 1 foo;", 1, 8);
        fault("delay 1 not 1;", 1, 8);
        fault("delay foo;", 3, 6);
        fault("delay size;", 3, 6);
        fault("delay or;", 3, 6);
        fault("delay packets;", 3, 6);
        fault("delay 1 + foo;", 3, 10);
        fault("delay 1 + not 2;", 3, 10);
        fault("delay 1 < not 2;", 3, 10);
        fault("delay 1 * not 2;", 3, 10);
        fault("delay 1 and foo;", 3, 12);
        fault("delay not foo;", 3, 10);
        fault("delay (foo);", 3, 7);
        fault("delay 1 and;", 1, 11);
        fault("delay 1 and and 1;", 3, 12);
        fault("delay 1 +;", 1, 9);
        fault("delay -1;", 1, 6);
        fault("delay 1 - - 1;", 1, 10);
        fault("delay 1 < 2 < 3;", 1, 12);
        fault("delay 1 = 2 < 3;", 1, 12);
        sound("delay (1 < 2) < 3 and 1 = 2 or 3 < 4;");
        fault("delay (1;", 1, 8);
        fault("delay 1);", 1, 7);
        fault("delay ();", 1, 7);
        fault("delay (1 2);", 1, 9);
        sound("delay 9999;");
        fault("delay 10000;", 2, 6);
        fault("delay 00000;", 2, 6);
        fault("delay 1 + 12345;", 2, 10);
        fault("delay 1 12345;", 1, 8);
        sound("lost 300 - time * last / flying + packet;");
        fault("lost 1 ? 2;", 1, 7);
    }

    private static void faultsOfDepth() {
        CHECK.begin("3 faults of depth");
        sound("delay (((((1)))));");
        sound("delay (((((1)))))+(((((2)))));");
        fault("delay ((((((1))))));", 2, 12);
        fault("delay ((((((packet))))));", 2, 12);
        fault("delay ((((((foo))))));", 2, 12);
        fault("delay ((((((not 1))))));", 2, 12);
        fault("delay ((((((12345))))));", 2, 12);
        fault("delay (((((((1)))))));", 2, 12);
        fault("delay (((((()", 1, 12);
        fault("delay ((((((-1))))));", 1, 12);
        fault("delay ((((((", 1, 12);
        fault("delay (((((( ", 1, 13);
        fault("delay ((((((;", 1, 12);
        fault("delay (((((1 + (", 1, 16);
        fault("delay (((((1 + (2", 2, 16);
        sound("delay not not not not not not 1;");
        fault("delay not not not not not not not 1;", 2, 30);
        fault("delay not not not not not not not", 2, 30);
        sound("delay not not not (not not not not 1) and not not not not 1;");
        fault("lost (((((not not not not not not not 1)))));", 2, 34);
        fault("delay not not not not not not;", 1, 29);
    }

    private static void faultPlace() {
        CHECK.begin("4 fault");
        CircuitCells x = new CircuitCells();
        CHECK.is("none", x.fault(), -1);
        Texts.tell(x, "size 4; target 0;");
        CHECK.is("a fault", x.fault(), 15);
        x.steps(1);
        x.undo();
        CHECK.is("still", x.fault(), 15);
        Texts.tell(x, "");
        CHECK.is("none again", x.fault(), -1);
        Texts.tell(x, "size 4; target 0;");
        x.image();
        Texts.tell(x, "x");
        x.restore();
        CHECK.is("the latest", x.fault(), 0);
    }

    /** What DELAY gives for the first packet, kept to 0 to 60. */
    private static int delayOf(String expr) {
        CircuitCells x = Texts.told("size 1; target 64; delay " + expr + ";");
        x.steps(1);
        return x.count(4) == 0 ? 0 : x.flying(0, 1);
    }

    private static void gives(String expr, int due) {
        CHECK.is("«" + expr + "»", delayOf(expr), due);
    }

    private static void expressions() {
        CHECK.begin("3 expressions");
        gives("1+2*3", 7);
        gives("(1+2)*3", 9);
        gives("20-5-3", 12);
        gives("100/7/2", 7);
        gives("2*9/4*3", 12);
        gives("7/0+5", 5);
        gives("(0-7)/2+10", 7);
        gives("3<4", 1);
        gives("4<4", 0);
        gives("5<4", 0);
        gives("4=4", 1);
        gives("4=5", 0);
        gives("1+2<3", 0);
        gives("1<2+3", 1);
        gives("not 0", 1);
        gives("not 5", 0);
        gives("not not 5", 1);
        gives("not 1<2", 0);
        gives("not 2<1", 1);
        gives("not (0-1)", 0);
        gives("2 and 3", 1);
        gives("2 and 0", 0);
        gives("0 and 2", 0);
        gives("0-1 and 1", 1);
        gives("0 or 7", 1);
        gives("7 or 0", 1);
        gives("0 or 0", 0);
        gives("1 or 0 and 0", 1);
        gives("(1 or 0) and 0", 0);
        gives("0 and 0 or 1", 1);
        gives("not 1 or 1", 1);
        gives("not 0 and 0", 0);
        gives("5 and 6 or 0 and 9", 1);
        gives("70", 60);
        gives("60", 60);
        gives("0-5", 0);
        gives("(0-9999*9999*9999)/9999/3000", 34);
        gives("(9999*9999*30 < 0) * 40", 9999 * 9999 * 30 < 0 ? 40 : 0);
        gives("(0 - 8*4096*8192*8) / (0-1) < 0", 1);
        gives("(1+(2+(3+(4+(5)))))*2", 30);
        gives("1+(1+(1+(1<2 and 3+(4*(5-2*1)))))", 4);
    }

    private static void due(String rules, int... due) {
        CircuitCells x = Texts.told("size 1; target 64; " + rules);
        x.steps(due.length);
        for (int i = 0; i < due.length; i++) {
            CHECK.is("«" + rules + "» DUE of " + i, x.flying(i, 1), due[i]);
        }
    }

    private static void values() {
        CHECK.begin("3 values");
        due("", 3, 4, 5);
        due("delay 5+packet;", 5, 7, 9);
        due("delay 5+time;", 5, 7, 9);
        due("delay 5+last;", 5, 11, 17);
        due("delay 59+last;", 59, 61, 62);
        due("delay 9+flying;", 9, 11, 13);
        CircuitCells x = Texts.told("size 2; delay 9+packet+100*time;");
        x.steps(4);
        CHECK.is("capped", x.flying(0, 1), 1 + 60);
        x = Texts.told("size 2; delay 5+last; lost packet=1;");
        x.stall(7);
        x.steps(6);
        CHECK.is("in flight", x.count(4), 2);
        CHECK.is("STALL behind it", x.flying(0, 1), 1 + 5 + 7);
        CHECK.is("last of a lost one, without STALL", x.flying(1, 1), 5 + 15 + 7);
        CHECK.is("which", x.flying(1, 0), 2);
    }

    private static void lostRule() {
        CHECK.begin("3 lost");
        CircuitCells x = Texts.told("size 1; target 64; delay 20+packet; lost last=20;");
        x.steps(4);
        CHECK.is("last is that of the one ahead", x.flying(1, 0), 2);
        CHECK.is("lost", x.count(3), 1);
        x = Texts.told("size 1; target 64; delay 20; lost packet - 2;");
        x.steps(5);
        CHECK.is("more than 0 is lost", x.count(3), 2);
        x = Texts.told("size 1; target 64; delay 20; lost flying = 3;");
        x.steps(10);
        CHECK.is("flying", x.count(3), 7);
        x = Texts.told("size 1; target 64; delay 20; lost time = 3 or packet = 5;");
        x.steps(10);
        CHECK.is("time, packet", x.count(3), 2);
    }
}
