/**
 * The boundary cases that the document's sentences name, a method for each, in
 * the order of the promises. Refused calls stand in RefusalsTest, the last
 * call of an object in LastCallTest.
 */
public final class EdgesTest {
    private static final int ALL = 1023;

    private static final Answers answers = new Answers();

    public static void main(String[] args) {
        newObjectHasNoLine();
        joinOnNoLine();
        joinOnALineThatIsThere();
        joinOnAllLines();
        joinToTheLastLine();
        partOnNoLine();
        partOnAllLines();
        partAndJoinAgain();
        partToTheLastLine();
        mostOfNoLine();
        mostOfOneLine();
        mostOfAllLines();
        spareOnNoLine();
        spareOnOneLine();
        spareOnAllLines();
        spareOnAllLinesOfNinePoints();
        usableOnNoLine();
        usableOnAllLines();
        usableOnAllLinesButOne();
        usableOnALineThatIsGone();
        neededOnNoLine();
        neededOnOneLine();
        neededOnAllLines();
        neededOnFivePairs();
        guardsOfNoLine();
        guardsOfAllLines();
        guardsOfAStar();
        guardsAtTheirMost();
        guardsAreNotSpare();
        guardsHaveALineToASpare();
        mostWithoutNoPoint();
        mostWithoutAllPoints();
        mostWithoutOnePoint();
        mostWithoutBitsAboveTheTen();
        mostWithoutNegativeSets();
        mostWithoutOnNoLine();
        mostWithoutOnAllLines();
        mostWithoutChangesNothing();
        partsOfNoLine();
        partsOfAllLines();
        partsOfAllLinesOfNinePoints();
        partsWithoutGuards();
        partsOverALeftOutPoint();
        partsOverALongRow();
        questionsChangeNothing();
        answers.finish();
    }

    private static void due(String call, int want, int got) {
        answers.due(call, want, got);
    }

    private interface TwoPoints {
        void look(int a, int b);
    }

    private static void eachTwo(TwoPoints each) {
        for (int a = 0; a < 10; a++) {
            for (int b = 0; b < 10; b++) {
                if (a != b) {
                    each.look(a, b);
                }
            }
        }
    }

    private static String pair(int a, int b) {
        return "(" + a + ", " + b + ")";
    }

    // Promise 1

    private static void newObjectHasNoLine() {
        BlossomDesk desk = new BlossomDesk();
        eachTwo((a, b) -> due("new: part" + pair(a, b), 0, desk.part(a, b)));
        eachTwo((a, b) -> due("new: join" + pair(a, b), 1, new BlossomDesk().join(a, b)));
    }

    // Promise 2

    private static void joinOnNoLine() {
        eachTwo((a, b) -> {
            BlossomDesk desk = new BlossomDesk();
            due("no line: join" + pair(a, b), 1, desk.join(a, b));
            eachTwo((c, d) -> {
                boolean drawn = c == a && d == b || c == b && d == a;
                due("line " + pair(a, b) + ": usable" + pair(c, d), drawn ? 1 : 0, desk.usable(c, d));
            });
            due("line " + pair(a, b) + ": part" + pair(b, a), 1, desk.part(b, a));
            answers.same("line " + pair(a, b) + " drawn and gone", new BlossomDesk(), desk);
        });
    }

    private static void joinOnALineThatIsThere() {
        eachTwo((a, b) -> {
            BlossomDesk desk = Desks.withLines(a, b);
            due("line " + pair(a, b) + ": join again", 0, desk.join(a, b));
            due("line " + pair(a, b) + ": join the other way round", 0, desk.join(b, a));
            answers.same("line " + pair(a, b) + " joined thrice", Desks.withLines(b, a), desk);
        });
    }

    private static void joinOnAllLines() {
        BlossomDesk desk = Desks.withAllLines();
        eachTwo((a, b) -> due("all lines: join" + pair(a, b), 0, desk.join(a, b)));
        due("all lines joined again: most()", 5, desk.most());
        due("all lines joined again: mostWithout(1)", 4, desk.mostWithout(1));
    }

    private static void joinToTheLastLine() {
        BlossomDesk desk = new BlossomDesk();
        eachTwo((a, b) -> due("on the way to all lines: join" + pair(a, b), a < b ? 1 : 0, desk.join(a, b)));
        eachTwo((a, b) -> due("all lines: usable" + pair(a, b), 1, desk.usable(a, b)));
    }

    // Promise 3

    private static void partOnNoLine() {
        BlossomDesk desk = new BlossomDesk();
        eachTwo((a, b) -> due("no line: part" + pair(a, b), 0, desk.part(a, b)));
        answers.same("no line, all parted", new BlossomDesk(), desk);
    }

    private static void partOnAllLines() {
        eachTwo((a, b) -> {
            BlossomDesk desk = Desks.withAllLines();
            due("all lines: part" + pair(a, b), 1, desk.part(a, b));
            due("all lines: part again", 0, desk.part(a, b));
            due("all lines: part the other way round", 0, desk.part(b, a));
            eachTwo((c, d) -> {
                boolean gone = c == a && d == b || c == b && d == a;
                due("all lines but " + pair(a, b) + ": usable" + pair(c, d), gone ? 0 : 1, desk.usable(c, d));
            });
        });
    }

    private static void partAndJoinAgain() {
        eachTwo((a, b) -> {
            BlossomDesk desk = Desks.withAllLines();
            due("all lines: part" + pair(a, b), 1, desk.part(a, b));
            due("all lines but one: join" + pair(b, a), 1, desk.join(b, a));
            answers.same("line " + pair(a, b) + " gone and drawn", Desks.withAllLines(), desk);
        });
    }

    private static void partToTheLastLine() {
        BlossomDesk desk = Desks.withAllLines();
        eachTwo((a, b) -> due("on the way to no line: part" + pair(a, b), a < b ? 1 : 0, desk.part(a, b)));
        due("no line left: most()", 0, desk.most());
        due("no line left: guards()", 0, desk.guards());
        due("no line left: parts()", 10, desk.parts());
    }

    // Promise 4

    private static void mostOfNoLine() {
        due("no line: most()", 0, new BlossomDesk().most());
    }

    private static void mostOfOneLine() {
        eachTwo((a, b) -> due("line " + pair(a, b) + ": most()", 1, Desks.withLines(a, b).most()));
    }

    private static void mostOfAllLines() {
        for (int first = 0; first < 10; first++) {
            int most = (10 - first) / 2;
            due("all lines from point " + first + ": most()", most, Desks.withAllLinesFrom(first).most());
        }
    }

    // Promise 5

    private static void spareOnNoLine() {
        for (int p = 0; p < 10; p++) {
            due("no line: spare(" + p + ")", 1, new BlossomDesk().spare(p));
        }
    }

    private static void spareOnOneLine() {
        eachTwo((a, b) -> {
            BlossomDesk desk = Desks.withLines(a, b);
            for (int p = 0; p < 10; p++) {
                due("line " + pair(a, b) + ": spare(" + p + ")", p == a || p == b ? 0 : 1, desk.spare(p));
            }
        });
    }

    private static void spareOnAllLines() {
        BlossomDesk desk = Desks.withAllLines();
        for (int p = 0; p < 10; p++) {
            due("all lines: spare(" + p + ")", 0, desk.spare(p));
        }
    }

    private static void spareOnAllLinesOfNinePoints() {
        BlossomDesk desk = Desks.withAllLinesFrom(1);
        for (int p = 0; p < 10; p++) {
            due("all lines from point 1: spare(" + p + ")", 1, desk.spare(p));
        }
    }

    // Promise 6

    private static void usableOnNoLine() {
        BlossomDesk desk = new BlossomDesk();
        eachTwo((a, b) -> due("no line: usable" + pair(a, b), 0, desk.usable(a, b)));
    }

    private static void usableOnAllLines() {
        BlossomDesk desk = Desks.withAllLines();
        eachTwo((a, b) -> due("all lines: usable" + pair(a, b), 1, desk.usable(a, b)));
    }

    // The line would be of use if it were there: four pairs can stand beside it.
    private static void usableOnAllLinesButOne() {
        eachTwo((a, b) -> {
            BlossomDesk desk = Desks.withAllLines();
            desk.part(a, b);
            due("all lines but one: usable" + pair(a, b), 0, desk.usable(a, b));
            due("all lines but one: usable" + pair(b, a), 0, desk.usable(b, a));
        });
    }

    private static void usableOnALineThatIsGone() {
        BlossomDesk desk = Desks.withLines(0, 9);
        desk.part(9, 0);
        due("line gone: usable(0, 9)", 0, desk.usable(0, 9));
        due("line gone: usable(9, 0)", 0, desk.usable(9, 0));
    }

    // Promise 7

    // The one largest pairing has no line at all, so it does not have this one.
    private static void neededOnNoLine() {
        BlossomDesk desk = new BlossomDesk();
        eachTwo((a, b) -> due("no line: needed" + pair(a, b), 0, desk.needed(a, b)));
    }

    private static void neededOnOneLine() {
        eachTwo((a, b) -> {
            BlossomDesk desk = Desks.withLines(a, b);
            eachTwo((c, d) -> {
                boolean drawn = c == a && d == b || c == b && d == a;
                due("line " + pair(a, b) + ": needed" + pair(c, d), drawn ? 1 : 0, desk.needed(c, d));
            });
        });
    }

    private static void neededOnAllLines() {
        BlossomDesk desk = Desks.withAllLines();
        eachTwo((a, b) -> due("all lines: needed" + pair(a, b), 0, desk.needed(a, b)));
    }

    private static void neededOnFivePairs() {
        BlossomDesk desk = Desks.withLines(0, 9, 1, 8, 2, 7, 3, 6, 4, 5);
        eachTwo((a, b) -> due("five pairs: needed" + pair(a, b), a + b == 9 ? 1 : 0, desk.needed(a, b)));
    }

    // Promise 8

    private static void guardsOfNoLine() {
        due("no line: guards()", 0, new BlossomDesk().guards());
    }

    private static void guardsOfAllLines() {
        due("all lines: guards()", 0, Desks.withAllLines().guards());
    }

    private static void guardsOfAStar() {
        for (int centre = 0; centre < 10; centre++) {
            due("a star around " + centre + ": guards()", 1 << centre, star(centre).guards());
        }
    }

    private static BlossomDesk star(int centre) {
        BlossomDesk desk = new BlossomDesk();
        for (int p = 0; p < 10; p++) {
            if (p != centre) {
                desk.join(centre, p);
            }
        }
        return desk;
    }

    // Five on each side leave no point over, so four are the most.
    private static void guardsAtTheirMost() {
        due("four and six: guards()", 0b1111, Desks.twoSides(4).guards());
        due("six and four: guards()", 0b1111000000, Desks.twoSides(6).guards());
        due("five and five: guards()", 0, Desks.twoSides(5).guards());
    }

    // In a triangle and in nine points with all lines each point is joined to
    // spare ones, but is spare itself.
    private static void guardsAreNotSpare() {
        due("a triangle: guards()", 0, Desks.withLines(0, 1, 1, 9, 9, 0).guards());
        due("all lines from point 1: guards()", 0, Desks.withAllLinesFrom(1).guards());
    }

    // Points 3 and 4 are not spare: 3 has a line to the guard, 4 to 3 alone.
    private static void guardsHaveALineToASpare() {
        BlossomDesk desk = Desks.withLines(0, 1, 0, 2, 0, 3, 3, 4);
        due("beside a guard: spare(3)", 0, desk.spare(3));
        due("beside a guard: spare(4)", 0, desk.spare(4));
        due("beside a guard: guards()", 1, desk.guards());
        desk.join(4, 1);
        due("beside a spare: guards()", 1 + 16, desk.guards());
    }

    // Promise 9

    private static BlossomDesk[] desks() {
        return new BlossomDesk[] {
            new BlossomDesk(), Desks.withLines(0, 9), Desks.petersen(), Desks.twoSides(4), Desks.withAllLines()};
    }

    private static void mostWithoutNoPoint() {
        for (BlossomDesk desk : desks()) {
            due("no point: mostWithout(0)", desk.most(), desk.mostWithout(0));
        }
    }

    private static void mostWithoutAllPoints() {
        for (BlossomDesk desk : desks()) {
            due("all points: mostWithout(1023)", 0, desk.mostWithout(ALL));
        }
    }

    private static void mostWithoutOnePoint() {
        BlossomDesk desk = Desks.withLines(0, 9, 3, 4);
        for (int p = 0; p < 10; p++) {
            boolean paired = p == 0 || p == 9 || p == 3 || p == 4;
            due("two pairs: mostWithout(" + (1 << p) + ")", paired ? 1 : 2, desk.mostWithout(1 << p));
        }
    }

    private static void mostWithoutBitsAboveTheTen() {
        BlossomDesk desk = Desks.withAllLines();
        for (int bit = 10; bit < 32; bit++) {
            int high = 1 << bit;
            due("all lines: mostWithout(" + high + ")", 5, desk.mostWithout(high));
            due("all lines: mostWithout(" + (high | 1) + ")", 4, desk.mostWithout(high | 1));
            due("all lines: mostWithout(" + (high | 512) + ")", 4, desk.mostWithout(high | 512));
            due("all lines: mostWithout(" + (high | ALL) + ")", 0, desk.mostWithout(high | ALL));
            due("all lines: mostWithout(" + (high - 1) + ")", 0, desk.mostWithout(high - 1));
        }
        due("all lines: the highest number", 0, desk.mostWithout(Integer.MAX_VALUE));
        due("all lines: all but the ten and the sign", 5, desk.mostWithout(Integer.MAX_VALUE - ALL));
    }

    private static void mostWithoutNegativeSets() {
        BlossomDesk desk = Desks.withAllLines();
        due("all lines: all bits", 0, desk.mostWithout(-1));
        due("all lines: all bits but point 0", 0, desk.mostWithout(-2));
        due("all lines: all bits but points 0 and 1", 1, desk.mostWithout(-4));
        due("all lines: all bits but points 0 to 8", 4, desk.mostWithout(-512));
        due("all lines: all bits but the ten", 5, desk.mostWithout(-1024));
        due("all lines: all bits but the ten, and point 0", 4, desk.mostWithout(-1023));
        due("all lines: the lowest number", 5, desk.mostWithout(Integer.MIN_VALUE));
        due("all lines: the lowest number and all points", 0, desk.mostWithout(Integer.MIN_VALUE + ALL));
    }

    private static void mostWithoutOnNoLine() {
        BlossomDesk desk = new BlossomDesk();
        for (int set = -256; set < 256; set++) {
            due("no line: mostWithout(" + set + ")", 0, desk.mostWithout(set));
        }
    }

    private static void mostWithoutOnAllLines() {
        for (int quarter = 0; quarter < 4; quarter++) {
            BlossomDesk desk = Desks.withAllLines();
            for (int set = quarter; set <= ALL; set += 4) {
                int most = (10 - Integer.bitCount(set)) / 2;
                due("all lines: mostWithout(" + set + ")", most, desk.mostWithout(set));
            }
        }
    }

    private static void mostWithoutChangesNothing() {
        for (int set : new int[] {0, 1, 512, ALL, 1024, -1, -1024, Integer.MIN_VALUE, Integer.MAX_VALUE}) {
            BlossomDesk desk = Desks.petersen();
            desk.mostWithout(set);
            answers.same("after mostWithout(" + set + ")", Desks.petersen(), desk);
        }
    }

    // Promise 10

    private static void partsOfNoLine() {
        due("no line: parts()", 10, new BlossomDesk().parts());
    }

    private static void partsOfAllLines() {
        due("all lines: parts()", 1, Desks.withAllLines().parts());
    }

    private static void partsOfAllLinesOfNinePoints() {
        due("all lines from point 1: parts()", 2, Desks.withAllLinesFrom(1).parts());
    }

    private static void partsWithoutGuards() {
        for (int centre = 0; centre < 10; centre++) {
            due("a star around " + centre + ": parts()", 9, star(centre).parts());
        }
        due("four and six: parts()", 6, Desks.twoSides(4).parts());
        due("six and four: parts()", 6, Desks.twoSides(6).parts());
        due("five and five: parts()", 1, Desks.twoSides(5).parts());
    }

    // Two triangles and a lone point, all three joined to 9, which is left out.
    private static void partsOverALeftOutPoint() {
        BlossomDesk desk = Desks.withLines(0, 1, 1, 2, 2, 0, 3, 4, 4, 5, 5, 3, 9, 0, 9, 3, 9, 6);
        due("triangles around a guard: guards()", 512, desk.guards());
        due("triangles around a guard: parts()", 5, desk.parts());
    }

    private static void partsOverALongRow() {
        due("a row of ten: parts()", 1, Desks.withLines(4, 5, 5, 3, 3, 6, 6, 2, 2, 7, 7, 1, 1, 8, 8, 0, 0, 9).parts());
        BlossomDesk cut = Desks.withLines(4, 5, 5, 3, 3, 6, 6, 2, 7, 1, 1, 8, 8, 0);
        due("rows of five and four: guards()", 32 + 64, cut.guards());
        due("rows of five and four: parts()", 5, cut.parts());
    }

    // Only join and part tell of a change.
    private static void questionsChangeNothing() {
        BlossomDesk desk = Desks.twoSides(4);
        desk.most();
        desk.guards();
        desk.parts();
        for (int p = 0; p < 10; p++) {
            desk.spare(p);
            desk.usable(p, (p + 3) % 10);
            desk.needed(p, (p + 3) % 10);
            desk.mostWithout(1 << p);
        }
        answers.same("after every question", Desks.twoSides(4), desk);
    }
}
