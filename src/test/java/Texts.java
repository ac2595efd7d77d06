/** Puts texts on the tape. */
final class Texts {
    private Texts() {
    }

    /** Feeds the text, with zeros behind it up to a multiple of 20 bytes; the answer of the last feed. */
    static int feed(CircuitCells x, String text) {
        int answer = x.count(19);
        for (int i = 0; i < text.length(); i += 20) {
            answer = x.feed(four(text, i), four(text, i + 4), four(text, i + 8), four(text, i + 12), four(text, i + 16));
        }
        return answer;
    }

    private static int four(String text, int from) {
        int number = 0;
        for (int i = from; i < from + 4; i++) {
            number = number << 8 | (i < text.length() ? text.charAt(i) : 0);
        }
        return number;
    }

    static int tell(CircuitCells x, String text) {
        feed(x, text);
        return x.line(text.length());
    }

    static CircuitCells told(String text) {
        CircuitCells x = new CircuitCells();
        int fault = tell(x, text);
        if (fault != 0) {
            throw new IllegalStateException("fault " + fault + " at " + x.fault() + " in " + text);
        }
        return x;
    }
}
