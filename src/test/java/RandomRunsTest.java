import java.lang.reflect.InvocationTargetException;
import java.lang.reflect.Method;
import java.util.Arrays;
import java.util.Random;

/** Runs of calls by fixed seeds, each call asked of CircuitCells and of PlainModel: the answers must be alike. */
public final class RandomRunsTest {
    private static final int LOOK_COUNTS = 23;
    private static final int LOOK_SETS = 15;
    /** What the document promises of one object, and what of it is set aside for compareAll() and for one text more. */
    private static final int MOST_CALLS = 512;
    private static final int CALLS_OF_ALL = 293;
    private static final int CALLS_OF_A_TEXT = 37;

    private final Random random;
    private final CircuitCells cells = new CircuitCells();
    private final PlainModel model = new PlainModel();
    private final StringBuilder story = new StringBuilder();
    private int asked;

    private RandomRunsTest(long seed) {
        random = new Random(seed);
    }

    public static void main(String[] args) {
        int first = args.length > 0 ? Integer.parseInt(args[0]) : 0;
        int runs = args.length > 1 ? Integer.parseInt(args[1]) : 360;
        int wrong = 0;
        for (int seed = first; seed < first + runs && wrong < 3; seed++) {
            RandomRunsTest test = new RandomRunsTest(seed);
            String fault = test.run(seed);
            if (fault != null) {
                wrong++;
                System.out.println("seed " + seed + ": " + fault + "\n" + test.story);
            }
        }
        System.out.println(runs + " runs, " + wrong + " went apart");
        System.exit(wrong == 0 ? 0 : 1);
    }

    private String run(int seed) {
        int kind = seed % 6;
        String fault = kind == 0 ? null : tell(kind != 1);
        int until = 20 + random.nextInt(MOST_CALLS - CALLS_OF_ALL - CALLS_OF_A_TEXT - 20);
        while (fault == null && asked < until) {
            fault = kind == 1 ? tell(random.nextInt(6) == 0) : kind == 2 ? longCall() : anyCall();
            fault = fault == null ? compareOne() : fault;
        }
        fault = fault == null ? compareAll() : fault;
        return fault == null && asked > MOST_CALLS ? "more than 512 calls" : fault;
    }

    private String tell(boolean sound) {
        String text = RandomTexts.text(random);
        if (!sound) {
            text = RandomTexts.spoilt(random, text);
        }
        if (text.length() > 700) {
            text = text.substring(0, 700);
        }
        story.append("text: ").append(text).append('\n');
        char[] bytes = Arrays.copyOf(text.toCharArray(), (text.length() + 19) / 20 * 20);
        for (int i = 0; i < bytes.length; i += 20) {
            Object[] numbers = new Object[5];
            for (int k = 0; k < 5; k++) {
                int at = i + 4 * k;
                numbers[k] = bytes[at] << 24 | bytes[at + 1] << 16 | bytes[at + 2] << 8 | bytes[at + 3];
            }
            String fault = ask("feed", numbers);
            if (fault != null) {
                return fault;
            }
        }
        String fault = ask("line", text.length());
        return fault != null ? fault : ask("fault");
    }

    private String longCall() {
        for (int i = 0; i < 5; i++) {
            String fault = ask("steps", 30 + random.nextInt(21));
            if (fault != null) {
                return fault;
            }
        }
        return anyCall();
    }

    private String anyCall() {
        switch (random.nextInt(32)) {
            case 0: return ask("lose", edged(0, 20));
            case 1: return ask("stall", edged(0, 30));
            case 2: return turn();
            case 3: return ask("undo");
            case 4: return ask("then", edged(0, 400), edged(0, 5));
            case 5: return ask("when", edged(0, 3));
            case 6: return ask("settles");
            case 7: return random.nextInt(4) == 0 ? ask("toAim", edged(1, 400), edged(0, 1)) : ask("toAim", edged(1, 60), edged(0, 1));
            case 8: return random.nextInt(4) == 0 ? ask("toGain", edged(1, 400), edged(0, 1)) : ask("toGain", edged(1, 60), edged(0, 1));
            case 9: return note();
            case 10: return ask("other", edged(0, 2));
            case 11: return ask("look", edged(0, 1));
            case 12: return random.nextInt(3) == 0 ? ask("forget") : note();
            case 13: return ask("storms", edged(1, 5), edged(0, 10));
            case 14: return ask("years", random.nextInt(), edged(0, 60), edged(0, 2));
            case 15: return random.nextInt(3) == 0 ? ask("image") : null;
            case 16: return random.nextInt(3) == 0 ? ask("restore") : null;
            case 17: return ask("spans", edged(1, 128), edged(-1, 2));
            case 18: return ask("wander", edged(2, 128));
            case 19: return random.nextInt(12) == 0 ? tell(random.nextBoolean()) : null;
            case 20: return ask("line", -1 - random.nextInt(3));
            case 21: return ask("lose", random.nextInt(4));
            default: return ask("steps", edged(1, 50));
        }
    }

    private String note() {
        int steps = edged(0, 60);
        boolean likely = steps >= 0 && steps <= 60 && random.nextInt(3) > 0;
        return ask("note", steps, likely ? model.then(steps, 0) : edged(0, 999));
    }

    private String turn() {
        int what = edged(0, 2);
        return ask("turn", what, what == 0 ? edged(-99, 99) : what == 1 ? edged(0, 2) : edged(1, 64));
    }

    /** A number between two, or, rarely, just beyond, or far off. */
    private int edged(int least, int most) {
        switch (random.nextInt(40)) {
            case 0: return least - 1;
            case 1: return most + 1;
            case 2: return random.nextInt();
            case 3: return random.nextBoolean() ? Integer.MIN_VALUE : Integer.MAX_VALUE;
            case 4: return least;
            case 5: return most;
            default: return least + random.nextInt(most - least + 1);
        }
    }

    private String compareOne() {
        switch (random.nextInt(8)) {
            case 0: return ask("flying", random.nextInt(5), random.nextInt(3));
            case 1: return ask("slot", random.nextInt(64));
            case 2: return ask("played", random.nextInt(12), random.nextInt(2));
            case 3: return ask("sample", random.nextInt(12));
            case 4: return ask("set", random.nextInt(LOOK_SETS));
            default: return ask("count", random.nextInt(LOOK_COUNTS));
        }
    }

    private String compareAll() {
        String fault = null;
        for (int i = -1; i <= LOOK_COUNTS && fault == null; i++) {
            fault = ask("count", i);
        }
        for (int i = -1; i <= LOOK_SETS && fault == null; i++) {
            fault = ask("set", i);
        }
        for (int i = -1; i <= 41 && fault == null; i++) {
            fault = ask("flying", i, random.nextInt(5) - 1);
        }
        for (int i = -1; i <= 64 && fault == null; i++) {
            fault = ask("slot", i);
        }
        for (int i = random.nextInt(2) - 1; i <= 128 && fault == null; i += 2) {
            fault = ask("played", i, i < 0 || random.nextInt(20) > 0 ? random.nextInt(2) : random.nextInt(5) - 1);
        }
        for (int i = random.nextInt(2) - 1; i <= 128 && fault == null; i += 2) {
            fault = ask("sample", i);
        }
        for (int i = -2; i <= 8 && fault == null; i++) {
            fault = ask("spans", 1 + random.nextInt(3), i);
        }
        return fault != null ? fault : ask("wander", 2 + random.nextInt(20));
    }

    private String ask(String name, Object... arguments) {
        asked++;
        String due = answer(model, name, arguments);
        String got = answer(cells, name, arguments);
        if (!name.equals("count") && !name.equals("set") && !name.equals("flying") && !name.equals("slot")
            && !name.equals("played") && !name.equals("sample")) {
            story.append("  ").append(name).append(Arrays.toString(arguments)).append(" = ").append(due).append('\n');
        }
        return got.equals(due) ? null : name + Arrays.toString(arguments) + " answered " + got + ", due is " + due;
    }

    private static String answer(Object of, String name, Object[] arguments) {
        Class<?>[] types = new Class<?>[arguments.length];
        Arrays.fill(types, int.class);
        try {
            Method method = of.getClass().getDeclaredMethod(name, types);
            return String.valueOf(method.invoke(of, arguments));
        } catch (InvocationTargetException e) {
            return "throws " + e.getCause().getClass().getName();
        } catch (ReflectiveOperationException e) {
            throw new IllegalStateException(e);
        }
    }
}
