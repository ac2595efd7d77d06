import java.util.ArrayList;
import java.util.Collections;
import java.util.List;
import java.util.Random;

/** Texts of lines, by chance: sound ones and spoilt ones. */
final class RandomTexts {
    private static final String[] PIECES = {"size", "target", "gain", "every", "offset", "frame", "word", "delay", "lost",
        "or", "and", "not", "packet", "time", "last", "flying", "x", "nott", ";", "(", ")", "+", "-", "*", "/", "<", "=",
        "0", "1", "9", "17", "64", "65", "100", "255", "256", "9999", "10000", "00001", " ", "\n", "\t", "A", ".", "\u00e9"};

    private RandomTexts() {
    }

    static String text(Random random) {
        List<String> clauses = new ArrayList<>();
        if (random.nextInt(3) > 0) {
            clauses.add("size " + (1 + random.nextInt(random.nextBoolean() ? 8 : 2)) + ";");
        }
        if (random.nextInt(3) > 0) {
            clauses.add("target " + (1 + random.nextInt(random.nextBoolean() ? 64 : 16)) + ";");
        }
        if (random.nextInt(2) > 0) {
            clauses.add("gain " + random.nextInt(10) + " " + random.nextInt(10) + ";");
        }
        if (random.nextInt(2) > 0) {
            clauses.add("every " + (1 + random.nextInt(16)) + ";");
        }
        if (random.nextInt(2) > 0) {
            clauses.add("offset" + (random.nextBoolean() ? "-" : " ") + random.nextInt(100) + ";");
        }
        if (random.nextInt(2) > 0) {
            clauses.add("frame " + (1 + random.nextInt(8)) + ";");
        }
        if (random.nextInt(2) > 0) {
            StringBuilder word = new StringBuilder("word");
            for (int i = random.nextInt(16); i >= 0; i--) {
                word.append(' ').append(random.nextInt(256));
            }
            clauses.add(word + ";");
        }
        if (random.nextInt(4) > 0) {
            clauses.add("delay " + delay(random) + ";");
        }
        if (random.nextInt(2) > 0) {
            clauses.add("lost " + lost(random) + ";");
        }
        Collections.shuffle(clauses, random);
        return String.join(random.nextBoolean() ? " " : "\n", clauses);
    }

    private static String delay(Random random) {
        switch (random.nextInt(8)) {
            case 0: return String.valueOf(random.nextInt(70));
            case 1: return "packet * " + random.nextInt(20) + " - packet * packet / " + (1 + random.nextInt(9));
            case 2: return "(packet = " + random.nextInt(30) + ") * " + random.nextInt(60) + " + " + random.nextInt(5);
            case 3: return "(" + random.nextInt(60) + " - last) * (1 + flying) / 2";
            case 4: return "(packet - packet / 7 * 7) * " + random.nextInt(12);
            case 5: return "(" + random.nextInt(300) + " < time) * " + random.nextInt(60) + " + 1";
            default: return expr(random, 0);
        }
    }

    private static String lost(Random random) {
        switch (random.nextInt(5)) {
            case 0: return "packet - packet / " + (2 + random.nextInt(9)) + " * " + (2 + random.nextInt(9)) + " = 1";
            case 1: return random.nextInt(100) + " < time and time < " + (100 + random.nextInt(100));
            case 2: return "flying = " + random.nextInt(10) + " or last < " + random.nextInt(5) + " and 3 < packet";
            case 3: return "not packet";
            default: return "0 - " + expr(random, 0) + " / 2";
        }
    }

    static String expr(Random random, int depth) {
        StringBuilder text = new StringBuilder();
        int terms = random.nextInt(3) + 1;
        for (int i = 0; i < terms; i++) {
            if (i > 0) {
                text.append(random.nextBoolean() ? " and " : " or ");
            }
            for (int k = random.nextInt(20) == 0 ? random.nextInt(7) : random.nextInt(2); k > 0; k--) {
                text.append("not ");
            }
            text.append(sum(random, depth));
            if (random.nextInt(3) == 0) {
                text.append(random.nextBoolean() ? " < " : "=").append(sum(random, depth));
            }
        }
        return text.toString();
    }

    private static String sum(Random random, int depth) {
        StringBuilder text = new StringBuilder(part(random, depth));
        for (int i = random.nextInt(3); i > 0; i--) {
            text.append("+-*/".charAt(random.nextInt(4))).append(part(random, depth));
        }
        return text.toString();
    }

    private static String part(Random random, int depth) {
        int kind = random.nextInt(8);
        if (kind < 3) {
            return String.valueOf(random.nextInt(random.nextInt(5) == 0 ? 10000 : 20));
        }
        if (kind == 3 && depth < 6) {
            return "(" + expr(random, depth + 1) + ")";
        }
        return new String[] {"packet", "time", "last", "flying"}[random.nextInt(4)];
    }

    static String spoilt(Random random, String sound) {
        StringBuilder text = new StringBuilder(sound);
        if (random.nextInt(4) == 0) {
            text.setLength(0);
            text.append("delay ");
        }
        for (int i = random.nextInt(4); i >= 0; i--) {
            int at = random.nextInt(text.length() + 1);
            String piece = PIECES[random.nextInt(PIECES.length)];
            switch (random.nextInt(5)) {
                case 0: text.setLength(at); break;
                case 1: text.delete(at, Math.min(text.length(), at + 1 + random.nextInt(5))); break;
                case 2: text.insert(at, piece); break;
                case 3: text.insert(at, " " + piece + " "); break;
                default: text.append(' ').append(random.nextInt(5) == 0 ? nest(random) : piece); break;
            }
        }
        return text.toString();
    }

    private static String nest(Random random) {
        int deep = random.nextInt(8);
        String nots = "not ".repeat(random.nextInt(9));
        return "lost " + "(".repeat(deep) + nots + PIECES[random.nextInt(PIECES.length)] + ")".repeat(deep) + ";";
    }
}
