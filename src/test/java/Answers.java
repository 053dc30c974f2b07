/** Compares answers with the ones that are due, and ends a test. */
final class Answers {
    private int wrong = 0;
    private long asked = 0;

    void due(String call, long want, long got) {
        asked++;
        if (got != want) {
            wrong++;
            System.out.println(call + " answered " + got + ", due is " + want);
        }
    }

    // Two objects that must not be told apart by any call.
    void same(String what, BlossomDesk want, BlossomDesk got) {
        asked++;
        String due = Desks.allAnswers(want);
        String seen = Desks.allAnswers(got);
        if (!seen.equals(due)) {
            wrong++;
            System.out.println(what + ": all answers are\n  " + seen + "\ndue is\n  " + due);
        }
    }

    void finish() {
        System.out.println(asked + " answers, " + wrong + " not as due");
        if (wrong != 0 || asked == 0) {
            System.exit(1);
        }
    }
}
