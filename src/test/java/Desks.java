/** Objects with lines drawn, and all that can be seen of one. */
final class Desks {
    // Not all 1024 sets are asked for, so as to stay within an object's 512 calls.
    private static final int SET_STEP = 7;

    private Desks() {
    }

    // Points in twos: each two have a line.
    static BlossomDesk withLines(int... points) {
        BlossomDesk desk = new BlossomDesk();
        for (int i = 0; i + 1 < points.length; i += 2) {
            desk.join(points[i], points[i + 1]);
        }
        return desk;
    }

    static BlossomDesk withAllLines() {
        return withAllLinesFrom(0);
    }

    // Every line between points that are first or higher.
    static BlossomDesk withAllLinesFrom(int first) {
        BlossomDesk desk = new BlossomDesk();
        for (int a = first; a < 10; a++) {
            for (int b = a + 1; b < 10; b++) {
                desk.join(a, b);
            }
        }
        return desk;
    }

    // The points below first have a line to each of the others, and no more.
    static BlossomDesk twoSides(int first) {
        BlossomDesk desk = new BlossomDesk();
        for (int a = 0; a < first; a++) {
            for (int b = first; b < 10; b++) {
                desk.join(a, b);
            }
        }
        return desk;
    }

    // Two rings of five with a line between each point and its twin.
    static BlossomDesk petersen() {
        return withLines(0, 1, 1, 2, 2, 3, 3, 4, 4, 0, 5, 7, 7, 9, 9, 6, 6, 8, 8, 5, 0, 5, 1, 6, 2, 7, 3, 8, 4, 9);
    }

    // Every answer of the object, in 385 calls. The lines come last, as asking
    // for them by join draws them: the object is used up afterwards.
    static String allAnswers(BlossomDesk desk) {
        StringBuilder seen = new StringBuilder();
        seen.append(desk.most()).append(' ').append(desk.guards()).append(' ').append(desk.parts());
        for (int set = 0; set < 1024; set += SET_STEP) {
            seen.append(' ').append(desk.mostWithout(set));
        }
        for (int a = 0; a < 10; a++) {
            seen.append(" / ").append(desk.spare(a));
            for (int b = 0; b < 10; b++) {
                if (a != b) {
                    seen.append(' ').append(desk.usable(a, b)).append(desk.needed(a, b));
                }
            }
        }
        seen.append(" / ");
        for (int a = 0; a < 10; a++) {
            for (int b = a + 1; b < 10; b++) {
                seen.append(desk.join(a, b) == 0 ? 1 : 0);
            }
        }
        return seen.toString();
    }
}
