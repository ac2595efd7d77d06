import java.util.NoSuchElementException;

/** Counts and prints what is not as it is due. */
final class Check {
    interface Call {
        int answer();
    }

    private int wrong;
    private int done;
    private String part = "";

    void begin(String name) {
        part = name;
    }

    void is(String what, long got, long due) {
        done++;
        if (got != due) {
            wrong++;
            System.out.println(part + ": " + what + " answered " + got + ", due is " + due);
        }
    }

    void is(String what, boolean got, boolean due) {
        is(what, got ? 1 : 0, due ? 1 : 0);
    }

    void noElement(String what, Call call) {
        is(what + " (1 NoSuchElementException)", thrown(call), 1);
    }

    void illegal(String what, Call call) {
        is(what + " (2 IllegalArgumentException)", thrown(call), 2);
    }

    private static int thrown(Call call) {
        try {
            call.answer();
            return 0;
        } catch (NoSuchElementException e) {
            return 1;
        } catch (IllegalArgumentException e) {
            return e.getClass() == IllegalArgumentException.class ? 2 : 3;
        } catch (RuntimeException e) {
            return 4;
        }
    }

    void end() {
        System.out.println(done + " checks, " + wrong + " wrong");
        System.exit(wrong == 0 ? 0 : 1);
    }
}
