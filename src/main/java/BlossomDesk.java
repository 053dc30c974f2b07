public final class BlossomDesk {
    private static final int POINTS = 10;
    private static final int SETS = 1024;
    private static final int ALL = SETS - 1;

    // A set of points is the sum of 2^p over its points p.
    private final int[] neighbours = new int[POINTS];

    // The lines of a largest pairing within each set of points. It is kept
    // right by every change of a line, so that no question has to work it out.
    private final int[] largest = new int[SETS];

    // Arrays start with zeros, which is what no line and no pair look like.
    public BlossomDesk() {
    }

    public int join(int a, int b) {
        if (!isTwoPoints(a, b)) {
            return -1;
        }
        if (hasLine(a, b)) {
            return 0;
        }
        flipLine(a, b);
        return 1;
    }

    public int part(int a, int b) {
        if (!isTwoPoints(a, b)) {
            return -1;
        }
        if (!hasLine(a, b)) {
            return 0;
        }
        flipLine(a, b);
        return 1;
    }

    public int most() {
        return largest[ALL];
    }

    public int spare(int a) {
        if (!isPoint(a)) {
            return -1;
        }
        return isSpare(a) ? 1 : 0;
    }

    public int usable(int a, int b) {
        if (!isTwoPoints(a, b)) {
            return -1;
        }
        if (!hasLine(a, b)) {
            return 0;
        }
        return mostWithPair(a, b) == largest[ALL] ? 1 : 0;
    }

    public int needed(int a, int b) {
        if (!isTwoPoints(a, b)) {
            return -1;
        }
        return mostWithoutPair(a, b) < largest[ALL] ? 1 : 0;
    }

    public int guards() {
        int spares = spareSet();
        int found = 0;
        for (int point = 0; point < POINTS; point++) {
            if (!contains(spares, point) && (neighbours[point] & spares) != 0) {
                found |= 1 << point;
            }
        }
        return found;
    }

    public int mostWithout(int set) {
        return largest[ALL & ~set];
    }

    public int parts() {
        int unseen = ALL & ~guards();
        int count = 0;
        for (int point = 0; point < POINTS; point++) {
            if (contains(unseen, point)) {
                unseen &= ~reachedFrom(point, unseen);
                count++;
            }
        }
        return count;
    }

    private static boolean isPoint(int a) {
        return a >= 0 && a < POINTS;
    }

    private static boolean isTwoPoints(int a, int b) {
        return isPoint(a) && isPoint(b) && a != b;
    }

    private static boolean contains(int set, int point) {
        return (set >> point & 1) == 1;
    }

    private boolean hasLine(int a, int b) {
        return contains(neighbours[a], b);
    }

    private void flipLine(int a, int b) {
        neighbours[a] ^= 1 << b;
        neighbours[b] ^= 1 << a;
        fillLargest();
    }

    // A set's answer rests on smaller sets of lower points alone, so going up
    // by the highest point finds each of them already filled.
    private void fillLargest() {
        for (int top = 0; top < POINTS; top++) {
            for (int rest = 0; rest < 1 << top; rest++) {
                largest[1 << top | rest] = mostWithTop(top, rest);
            }
        }
    }

    // The highest point is either left over or paired with a neighbour.
    private int mostWithTop(int top, int rest) {
        int best = largest[rest];
        int partners = neighbours[top] & rest;
        for (int point = 0; point < top; point++) {
            if (contains(partners, point)) {
                int paired = 1 + largest[rest & ~(1 << point)];
                best = paired > best ? paired : best;
            }
        }
        return best;
    }

    private boolean isSpare(int a) {
        return largest[ALL & ~(1 << a)] == largest[ALL];
    }

    private int spareSet() {
        int spares = 0;
        for (int point = 0; point < POINTS; point++) {
            if (isSpare(point)) {
                spares |= 1 << point;
            }
        }
        return spares;
    }

    private int mostWithPair(int a, int b) {
        return 1 + largest[ALL & ~(1 << a) & ~(1 << b)];
    }

    // A pairing without the line leaves a over or pairs it with another point,
    // so the answer needs no second table for the points with the line gone.
    private int mostWithoutPair(int a, int b) {
        int best = largest[ALL & ~(1 << a)];
        for (int other = 0; other < POINTS; other++) {
            if (other != b && hasLine(a, other)) {
                int paired = mostWithPair(a, other);
                best = paired > best ? paired : best;
            }
        }
        return best;
    }

    // A round that adds no point is followed by none that does, so as many
    // rounds as there are points are enough.
    private int reachedFrom(int start, int allowed) {
        int reached = 1 << start;
        for (int round = 0; round < POINTS; round++) {
            for (int point = 0; point < POINTS; point++) {
                if (contains(reached, point)) {
                    reached |= neighbours[point] & allowed;
                }
            }
        }
        return reached;
    }
}
