import java.io.IOException;
import java.io.UncheckedIOException;
import java.nio.file.Files;
import java.nio.file.Path;
import java.util.ArrayList;
import java.util.List;

/**
 * What the tests of the document's boundary cases share: sentences, as they stand in the document, and calls
 * that are refused or throw, behind which all else must be as it was. No object is asked more than 512 times.
 */
final class Edges {
    interface Maker {
        CircuitCells make();
    }

    interface Asked {
        int answer(CircuitCells x);
    }

    /** Size 1, no delay, no steering: packet p comes at TIME p, and plays at once. */
    static final String PLAIN = "size 1; target 1; delay 0; gain 0 0;";
    /** It is FILLING for long: LEVEL is the packets that came, till sixteen lie there. */
    static final String FILLING = "size 1; target 64; delay 0;";

    final Check check = new Check();
    private final String document = read("../shared/DOC.md");

    private static String read(String file) {
        try {
            return Files.readString(Path.of(file));
        } catch (IOException e) {
            throw new UncheckedIOException(e);
        }
    }

    /** Begins the test of one sentence, which must stand in the document to the letter. */
    void sentence(String promise, String words) {
        check.begin("promise " + promise + " «" + words + "»");
        check.is("stands in the document", document.contains(words), true);
    }

    static CircuitCells after(String text, int steps) {
        CircuitCells x = Texts.told(text);
        go(x, steps);
        return x;
    }

    /** PLAYING, with PACKETS in flight, SAMPLES, FILLED ones, ACTS, what is NOTED, an image. */
    static CircuitCells busy() {
        CircuitCells x = Texts.told("size 2; target 5; delay 4 + 3*(packet - packet/5*5 = 4); gain 3 2; every 2; offset 9;"
            + "lost packet = 3;");
        x.note(7, 3);
        x.steps(17);
        x.image();
        x.lose(2);
        x.stall(3);
        x.turn(0, -20);
        x.turn(1, 2);
        x.turn(2, 7);
        x.steps(9);
        return x;
    }

    /** PLAYING what is WRONG, with LATE and BEYOND; LATE, BEYOND, WRONG, FILLED, RESETS are all more as it goes on. */
    static CircuitCells rich() {
        CircuitCells x = Texts.told("size 1; delay 2 + 7*(packet - packet/5*5 = 1) + last/2; target 64; gain 9 9; every 3;"
            + "offset 7; frame 5; word 1 2 3; lost 100 < packet - packet/200*200 and packet - packet/200*200 < 185;");
        go(x, 75);
        x.turn(2, 16);
        x.steps(25);
        return x;
    }

    static void go(CircuitCells x, int steps) {
        for (int left = steps; left > 0; left -= 50) {
            x.steps(Math.min(left, 50));
        }
    }

    /** A call that is refused: what it answers; STATUS of that number counts one more (NONE: none does). */
    void refused(String call, Maker maker, Asked asked, int due, int status) {
        CircuitCells x = maker.make();
        check.is(call, asked.answer(x), due);
        unchanged("behind " + call, x, maker.make(), status);
    }

    void noElement(String call, Maker maker, Asked asked) {
        CircuitCells x = maker.make();
        check.noElement(call, () -> asked.answer(x));
        unchanged("behind " + call, x, maker.make(), -1);
    }

    void illegal(String call, Maker maker, Asked asked) {
        CircuitCells x = maker.make();
        check.illegal(call, () -> asked.answer(x));
        unchanged("behind " + call, x, maker.make(), -1);
    }

    /**
     * Whether one object is as another, but for one more in a STATUS, and, if that is of TEXTS, for the tape and the
     * place of the FAULT; also as both go on, and back.
     */
    void unchanged(String what, CircuitCells x, CircuitCells untouched, int status) {
        for (int i = 20; i < 23; i++) {
            check.is(what + " STATUS " + (i - 20), x.count(i), untouched.count(i) + (i - 20 == status ? 1 : 0));
        }
        if (status != 0) {
            check.is(what + " fault()", x.fault(), untouched.fault());
            check.is(what + " bytes of the tape", x.count(19), untouched.count(19));
        }
        alike(what, seen(x), seen(untouched));
        check.is(what + " steps(9)", x.steps(9), untouched.steps(9));
        alike(what + " and 9 steps", seen(x), seen(untouched));
        int left = 0;
        for (int i = 0; i < 42 && left >= 0; i++) {
            left = untouched.undo();
            check.is(what + " undo()", x.undo(), left);
            if (i < 12) {
                turnedAlike(what + " and " + (i + 1) + " undone", x, untouched);
            }
        }
        alike(what + " and all undone", seen(x), seen(untouched));
        check.is(what + " restore()", x.restore(), untouched.restore());
        alike(what + " and restore()", seen(x), seen(untouched));
    }

    /** Whether one object shows what another one does, but for the ACTS that are kept, the tape, the FAULT, STATUS. */
    void shows(String what, CircuitCells x, CircuitCells due) {
        List<Integer> got = seen(x);
        List<Integer> asDue = seen(due);
        got.set(17, asDue.get(17));
        alike(what, got, asDue);
    }

    /** Whether the TIME and what can be turned are alike. */
    void turnedAlike(String what, CircuitCells x, CircuitCells due) {
        check.is(what + " TIME", x.count(0), due.count(0));
        for (int set : new int[] {1, 5, 8, 9, 10}) {
            check.is(what + " set(" + set + ")", x.set(set), due.set(set));
        }
    }

    private void alike(String what, List<Integer> got, List<Integer> due) {
        check.is(what + ", how much is seen", got.size(), due.size());
        for (int i = 0; i < due.size() && i < got.size(); i++) {
            check.is(what + ", seen " + i, got.get(i), due.get(i));
        }
    }

    /** What an object shows, less the tape, the FAULT and STATUS, in some ninety calls. */
    private static List<Integer> seen(CircuitCells x) {
        List<Integer> all = new ArrayList<>();
        for (int i = 0; i < 19; i++) {
            all.add(x.count(i));
        }
        for (int i = 0; i < 15; i++) {
            all.add(x.set(i));
        }
        for (int i = 0; i < x.count(4) && i < 4; i++) {
            all.add(x.flying(i, 0));
            all.add(x.flying(i, 1));
            all.add(x.flying(i, 2));
        }
        for (int i = 0; i < 16; i++) {
            all.add(x.slot(i));
        }
        for (int i = 0; i < all.get(7) && i < 4; i++) {
            all.add(x.played(i, 0));
            all.add(x.played(i, 1));
        }
        for (int i = 0; i < all.get(16) && i < 4; i++) {
            all.add(x.sample(i));
        }
        all.add(x.other(2));
        return all;
    }

    /** A text that has a FAULT: which, where, and what STATUS counts. */
    void fault(String text, int fault, int place) {
        CircuitCells x = new CircuitCells();
        check.is("line() of «" + text + "»", Texts.tell(x, text), fault);
        check.is("fault() of «" + text + "»", x.fault(), place);
        check.is("STATUS 0 behind «" + text + "»", x.count(20), 1);
    }

    CircuitCells sound(String text) {
        CircuitCells x = new CircuitCells();
        check.is("line() of «" + text + "»", Texts.tell(x, text), 0);
        check.is("fault() of «" + text + "»", x.fault(), -1);
        check.is("STATUS 0 behind «" + text + "»", x.count(20), 0);
        return x;
    }
}
