/**
 * "Points out of range, and two equal points, are refused: the call answers -1
 * and changes nothing." Each method that takes points, each kind of wrong
 * point, and each place for it, on an object of its own.
 */
public final class RefusalsTest {
    private interface Call {
        int on(BlossomDesk desk, int a, int b);
    }

    // Beside the nearest ones: numbers that a shift, a mask, a remainder or a
    // narrower type would take for a point.
    private static final int[] BELOW_ZERO = {
        -1, -2, -5, -9, -10, -16, -23, -31, -32, -64, -128, -256, -1024, -65536,
        Integer.MIN_VALUE, Integer.MIN_VALUE + 1};
    private static final int[] ABOVE_NINE = {
        10, 11, 15, 16, 17, 20, 25, 31, 32, 33, 41, 64, 100, 256, 1023, 1024, 65536,
        Integer.MAX_VALUE - 1, Integer.MAX_VALUE};
    private static final String[] STATES = {"no line", "all lines", "a row of five"};

    private static final Answers answers = new Answers();

    public static void main(String[] args) {
        twoPoints("join", BlossomDesk::join);
        twoPoints("part", BlossomDesk::part);
        twoPoints("usable", BlossomDesk::usable);
        twoPoints("needed", BlossomDesk::needed);
        spareBelowZero();
        spareAboveNine();
        spareFromZeroToNine();
        answers.finish();
    }

    private static BlossomDesk desk(String state) {
        return switch (state) {
            case "no line" -> new BlossomDesk();
            case "all lines" -> Desks.withAllLines();
            default -> Desks.withLines(0, 1, 1, 2, 2, 9, 9, 8);
        };
    }

    private static void twoPoints(String name, Call call) {
        for (String state : STATES) {
            outOfRange(state, name, call, BELOW_ZERO);
            outOfRange(state, name, call, ABOVE_NINE);
            bothOutOfRange(state, name, call);
            equalPoints(state, name, call);
            equalPointsOutOfRange(state, name, call);
        }
        everyTwoPointsAreTaken(name, call);
    }

    private static void outOfRange(String state, String name, Call call, int[] wrongPoints) {
        for (int wrong : wrongPoints) {
            for (int right = 0; right < 10; right++) {
                refused(state, name, call, wrong, right);
                refused(state, name, call, right, wrong);
            }
        }
    }

    private static void bothOutOfRange(String state, String name, Call call) {
        for (int i = 0; i < BELOW_ZERO.length; i++) {
            refused(state, name, call, BELOW_ZERO[i], ABOVE_NINE[i]);
            refused(state, name, call, ABOVE_NINE[i], BELOW_ZERO[i]);
        }
        refused(state, name, call, -1, -2);
        refused(state, name, call, 10, 11);
    }

    private static void equalPoints(String state, String name, Call call) {
        for (int p = 0; p < 10; p++) {
            refused(state, name, call, p, p);
        }
    }

    private static void equalPointsOutOfRange(String state, String name, Call call) {
        for (int wrong : BELOW_ZERO) {
            refused(state, name, call, wrong, wrong);
        }
        for (int wrong : ABOVE_NINE) {
            refused(state, name, call, wrong, wrong);
        }
    }

    private static void refused(String state, String name, Call call, int a, int b) {
        String what = state + ": " + name + "(" + a + ", " + b + ")";
        BlossomDesk desk = desk(state);
        answers.due(what, -1, call.on(desk, a, b));
        answers.same("after " + what, desk(state), desk);
    }

    private static void everyTwoPointsAreTaken(String name, Call call) {
        for (int a = 0; a < 10; a++) {
            for (int b = 0; b < 10; b++) {
                if (a != b) {
                    int answer = call.on(new BlossomDesk(), a, b);
                    answers.due(name + "(" + a + ", " + b + ") is not refused", 0, answer < 0 ? 1 : 0);
                }
            }
        }
    }

    private static void spareBelowZero() {
        for (int wrong : BELOW_ZERO) {
            spareRefused(wrong);
        }
    }

    private static void spareAboveNine() {
        for (int wrong : ABOVE_NINE) {
            spareRefused(wrong);
        }
    }

    private static void spareRefused(int wrong) {
        for (String state : STATES) {
            String what = state + ": spare(" + wrong + ")";
            BlossomDesk desk = desk(state);
            answers.due(what, -1, desk.spare(wrong));
            answers.same("after " + what, desk(state), desk);
        }
    }

    private static void spareFromZeroToNine() {
        for (int p = 0; p < 10; p++) {
            answers.due("no line: spare(" + p + ")", 1, new BlossomDesk().spare(p));
            answers.due("all lines: spare(" + p + ")", 0, Desks.withAllLines().spare(p));
        }
    }
}
