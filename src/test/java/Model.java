import java.util.ArrayList;
import java.util.Arrays;
import java.util.List;

/**
 * Answers every call from the words of the document: it lists all pairings one
 * by one and looks at them, and shares no idea with the program.
 */
final class Model {
    static final int POINTS = 10;

    private final boolean[][] line = new boolean[POINTS][POINTS];
    private final List<int[]> pairings = new ArrayList<>();
    private final List<int[]> largest = new ArrayList<>();
    private boolean listed = false;

    int join(int a, int b) {
        return setLine(a, b, true);
    }

    int part(int a, int b) {
        return setLine(a, b, false);
    }

    int most() {
        return mostWithout(0);
    }

    int spare(int a) {
        if (refused(a)) {
            return -1;
        }
        return largest().stream().anyMatch(mate -> mate[a] < 0) ? 1 : 0;
    }

    int usable(int a, int b) {
        if (refused(a, b)) {
            return -1;
        }
        return largest().stream().anyMatch(mate -> mate[a] == b) ? 1 : 0;
    }

    int needed(int a, int b) {
        if (refused(a, b)) {
            return -1;
        }
        return largest().stream().allMatch(mate -> mate[a] == b) ? 1 : 0;
    }

    int guards() {
        int sum = 0;
        for (int p = 0; p < POINTS; p++) {
            if (spare(p) == 0 && hasSpareNeighbour(p)) {
                sum += 1 << p;
            }
        }
        return sum;
    }

    int mostWithout(int set) {
        list();
        int most = 0;
        for (int[] mate : pairings) {
            if (avoids(mate, set)) {
                most = Math.max(most, size(mate));
            }
        }
        return most;
    }

    int parts() {
        int[] name = new int[POINTS];
        int out = guards();
        for (int p = 0; p < POINTS; p++) {
            name[p] = (out >> p & 1) == 1 ? -1 : p;
        }
        for (int a = 0; a < POINTS; a++) {
            for (int b = 0; b < POINTS; b++) {
                if (line[a][b] && name[a] >= 0 && name[b] >= 0) {
                    rename(name, name[a], name[b]);
                }
            }
        }
        return (int) Arrays.stream(name).filter(n -> n >= 0).distinct().count();
    }

    private static void rename(int[] name, int from, int to) {
        for (int p = 0; p < POINTS; p++) {
            if (name[p] == from) {
                name[p] = to;
            }
        }
    }

    private static boolean refused(int a) {
        return a < 0 || a > 9;
    }

    private static boolean refused(int a, int b) {
        return refused(a) || refused(b) || a == b;
    }

    private int setLine(int a, int b, boolean wanted) {
        if (refused(a, b)) {
            return -1;
        }
        int answer = line[a][b] != wanted ? 1 : 0;
        line[a][b] = wanted;
        line[b][a] = wanted;
        listed = false;
        return answer;
    }

    private boolean hasSpareNeighbour(int p) {
        for (int q = 0; q < POINTS; q++) {
            if (line[p][q] && spare(q) == 1) {
                return true;
            }
        }
        return false;
    }

    private List<int[]> largest() {
        list();
        return largest;
    }

    private static int size(int[] mate) {
        int paired = 0;
        for (int m : mate) {
            paired += m >= 0 ? 1 : 0;
        }
        return paired / 2;
    }

    private static boolean avoids(int[] mate, int set) {
        for (int p = 0; p < POINTS; p++) {
            if (mate[p] >= 0 && (set >> p & 1) == 1) {
                return false;
            }
        }
        return true;
    }

    private void list() {
        if (listed) {
            return;
        }
        int[] mate = new int[POINTS];
        Arrays.fill(mate, -1);
        pairings.clear();
        listFrom(0, mate);
        listed = true;
        int most = most();
        largest.clear();
        for (int[] pairing : pairings) {
            if (size(pairing) == most) {
                largest.add(pairing);
            }
        }
    }

    // The pairing so far, and every one that adds lines numbered first or more.
    private void listFrom(int first, int[] mate) {
        pairings.add(mate.clone());
        for (int number = first; number < POINTS * POINTS; number++) {
            int a = number / POINTS;
            int b = number % POINTS;
            if (a < b && line[a][b] && mate[a] < 0 && mate[b] < 0) {
                mate[a] = b;
                mate[b] = a;
                listFrom(number + 1, mate);
                mate[a] = -1;
                mate[b] = -1;
            }
        }
    }
}
