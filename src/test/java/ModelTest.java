/** Compares the program with the model, call by call, over many sets of lines. */
public final class ModelTest {
    private static final int CALLS = 512;

    private static final Answers answers = new Answers();
    private static long state = 1;

    public static void main(String[] args) {
        everyLineSetOnFivePoints();
        lineSetsOnTenPoints();
        fullRuns();
        answers.finish();
    }

    // A fixed row of numbers, so that every run of the test is the same.
    private static int below(int bound) {
        state = state * 6364136223846793005L + 1442695040888963407L;
        return (int) ((state >>> 33) % bound);
    }

    private static void everyLineSetOnFivePoints() {
        int[] points = {0, 2, 5, 8, 9};
        for (int lines = 0; lines < 1024; lines++) {
            boolean[][] wanted = new boolean[10][10];
            int number = 0;
            for (int i = 0; i < 5; i++) {
                for (int j = i + 1; j < 5; j++) {
                    wanted[points[i]][points[j]] = (lines >> number++ & 1) == 1;
                }
            }
            askAll("five points, lines " + lines, wanted);
        }
    }

    private static void lineSetsOnTenPoints() {
        for (int round = 0; round < 300; round++) {
            int tenths = 1 + round % 10;
            boolean[][] wanted = new boolean[10][10];
            for (int a = 0; a < 10; a++) {
                for (int b = a + 1; b < 10; b++) {
                    // The square makes thin sets common: they have the most guards.
                    wanted[a][b] = below(100) < tenths * tenths;
                }
            }
            askAll("ten points, round " + round, wanted);
            askEverySet("ten points, round " + round, wanted, round % 4);
        }
    }

    private static void askAll(String where, boolean[][] wanted) {
        BlossomDesk desk = new BlossomDesk();
        Model model = new Model();
        draw(where, wanted, desk, model);
        askWhole(where, desk, model);
        for (int a = 0; a < 10; a++) {
            answers.due(where + ": spare(" + a + ")", model.spare(a), desk.spare(a));
            for (int b = 0; b < 10; b++) {
                String pair = "(" + a + ", " + b + ")";
                answers.due(where + ": usable" + pair, model.usable(a, b), desk.usable(a, b));
                answers.due(where + ": needed" + pair, model.needed(a, b), desk.needed(a, b));
            }
        }
        askWhole(where, desk, model);
    }

    // A quarter of the sets for one object, to stay within its calls.
    private static void askEverySet(String where, boolean[][] wanted, int quarter) {
        BlossomDesk desk = new BlossomDesk();
        Model model = new Model();
        draw(where, wanted, desk, model);
        for (int set = quarter; set < 1024; set += 4) {
            answers.due(where + ": mostWithout(" + set + ")", model.mostWithout(set), desk.mostWithout(set));
        }
    }

    private static void draw(String where, boolean[][] wanted, BlossomDesk desk, Model model) {
        for (int a = 0; a < 10; a++) {
            for (int b = 0; b < 10; b++) {
                if (wanted[a][b]) {
                    answers.due(where + ": join(" + a + ", " + b + ")", model.join(a, b), desk.join(a, b));
                }
            }
        }
    }

    private static void askWhole(String where, BlossomDesk desk, Model model) {
        answers.due(where + ": most()", model.most(), desk.most());
        answers.due(where + ": guards()", model.guards(), desk.guards());
        answers.due(where + ": parts()", model.parts(), desk.parts());
    }

    // Points now and then out of range, joins and parts mixed with questions,
    // to the last call that the document speaks of.
    private static void fullRuns() {
        for (int run = 0; run < 60; run++) {
            BlossomDesk desk = new BlossomDesk();
            Model model = new Model();
            int joinsInSeven = 2 + run % 4;
            for (int call = 0; call < CALLS; call++) {
                String where = "run " + run + ", call " + call;
                int a = below(12) - 1;
                int b = below(12) - 1;
                if (below(2) == 0) {
                    change(where, below(7) < joinsInSeven, a, b, desk, model);
                } else {
                    ask(where, below(7), a, b, desk, model);
                }
            }
        }
    }

    private static void change(String where, boolean join, int a, int b, BlossomDesk desk, Model model) {
        String pair = "(" + a + ", " + b + ")";
        if (join) {
            answers.due(where + ": join" + pair, model.join(a, b), desk.join(a, b));
        } else {
            answers.due(where + ": part" + pair, model.part(a, b), desk.part(a, b));
        }
    }

    private static void ask(String where, int kind, int a, int b, BlossomDesk desk, Model model) {
        String pair = "(" + a + ", " + b + ")";
        switch (kind) {
            case 0 -> answers.due(where + ": most()", model.most(), desk.most());
            case 1 -> answers.due(where + ": spare(" + a + ")", model.spare(a), desk.spare(a));
            case 2 -> answers.due(where + ": usable" + pair, model.usable(a, b), desk.usable(a, b));
            case 3 -> answers.due(where + ": needed" + pair, model.needed(a, b), desk.needed(a, b));
            case 4 -> answers.due(where + ": guards()", model.guards(), desk.guards());
            case 5 -> answers.due(where + ": parts()", model.parts(), desk.parts());
            default -> {
                int set = below(4096) - 2048;
                answers.due(where + ": mostWithout(" + set + ")", model.mostWithout(set & 1023), desk.mostWithout(set));
            }
        }
    }
}
