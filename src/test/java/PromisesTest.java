/** One method for each promise of the document, with answers worked out by hand. */
public final class PromisesTest {
    private static final Answers answers = new Answers();

    public static void main(String[] args) {
        promise1NewObject();
        promise2Join();
        promise3Part();
        promise4Most();
        promise5Spare();
        promise6Usable();
        promise7Needed();
        promise8Guards();
        promise9MostWithout();
        promise10Parts();
        objectsAreApart();
        answers.finish();
    }

    private static void due(String call, int want, int got) {
        answers.due(call, want, got);
    }

    private static BlossomDesk desk(int... points) {
        return Desks.withLines(points);
    }

    private static void promise1NewObject() {
        BlossomDesk desk = new BlossomDesk();
        due("new: most()", 0, desk.most());
        due("new: spare(4)", 1, desk.spare(4));
        due("new: guards()", 0, desk.guards());
        due("new: parts()", 10, desk.parts());
        due("new: part(3, 7)", 0, desk.part(3, 7));
        due("new: join(3, 7)", 1, desk.join(3, 7));
    }

    private static void promise2Join() {
        BlossomDesk desk = new BlossomDesk();
        due("join: the first time", 1, desk.join(0, 9));
        due("join: again", 0, desk.join(0, 9));
        due("join: the other way round", 0, desk.join(9, 0));
        due("join: the line is there", 1, desk.usable(9, 0));
        due("join: another line of the same point", 1, desk.join(9, 8));
        due("join: after part", 1, desk.part(9, 0));
        due("join: there was none again", 1, desk.join(9, 0));
        due("join: both lines", 1, desk.most());
    }

    private static void promise3Part() {
        BlossomDesk desk = desk(0, 9, 3, 4);
        due("part: none there", 0, desk.part(0, 3));
        due("part: none there changes nothing", 2, desk.most());
        due("part: the other way round", 1, desk.part(9, 0));
        due("part: again", 0, desk.part(0, 9));
        due("part: again, the other way round", 0, desk.part(9, 0));
        due("part: the line is gone", 0, desk.usable(0, 9));
        due("part: the other line stays", 1, desk.needed(3, 4));
        due("part: most()", 1, desk.most());
        due("part: parts()", 9, desk.parts());
    }

    private static void promise4Most() {
        due("most: one line", 1, desk(8, 9).most());
        due("most: a star", 1, desk(5, 0, 5, 1, 5, 2, 5, 9).most());
        due("most: a triangle", 1, desk(0, 1, 1, 2, 2, 0).most());
        due("most: a row of four, its middle joined first", 2, desk(1, 2, 0, 1, 2, 3).most());
        due("most: a ring of five", 2, desk(0, 1, 1, 2, 2, 3, 3, 4, 4, 0).most());
        due("most: two triangles and a bridge", 3, desk(0, 1, 1, 2, 2, 0, 2, 3, 3, 4, 4, 5, 5, 3).most());
        due("most: two triangles apart", 2, desk(0, 1, 1, 2, 2, 0, 7, 8, 8, 9, 9, 7).most());
        due("most: petersen", 5, Desks.petersen().most());
        due("most: a row of ten", 5, desk(0, 1, 1, 2, 2, 3, 3, 4, 4, 5, 5, 6, 6, 7, 7, 8, 8, 9).most());
    }

    private static void promise5Spare() {
        BlossomDesk row = desk(0, 1, 1, 2);
        due("spare: an end of a row of three", 1, row.spare(0));
        due("spare: the middle of a row of three", 0, row.spare(1));
        due("spare: the other end", 1, row.spare(2));
        due("spare: a point without a line", 1, row.spare(9));
        BlossomDesk ring = desk(5, 6, 6, 7, 7, 8, 8, 9, 9, 5);
        for (int p = 0; p < 10; p++) {
            due("spare: a ring of five, spare(" + p + ")", 1, ring.spare(p));
        }
        BlossomDesk all = Desks.petersen();
        for (int p = 0; p < 10; p++) {
            due("spare: petersen, spare(" + p + ")", 0, all.spare(p));
        }
    }

    private static void promise6Usable() {
        BlossomDesk row = desk(0, 1, 1, 2, 2, 3);
        due("usable: an end line of a row of four", 1, row.usable(0, 1));
        due("usable: the middle line", 0, row.usable(1, 2));
        due("usable: the middle line, the other way round", 0, row.usable(2, 1));
        due("usable: no line, but both could be paired", 0, row.usable(0, 3));
        due("usable: no line between spare points", 0, row.usable(8, 9));
        due("usable: asking draws no line", 0, row.join(1, 2));
        due("usable: a line of petersen", 1, Desks.petersen().usable(5, 0));
        due("usable: a line of a triangle", 1, desk(7, 8, 8, 9, 9, 7).usable(9, 7));
    }

    private static void promise7Needed() {
        BlossomDesk row = desk(0, 1, 1, 2, 2, 3);
        due("needed: an end line of a row of four", 1, row.needed(0, 1));
        due("needed: the other way round", 1, row.needed(1, 0));
        due("needed: the middle line", 0, row.needed(1, 2));
        due("needed: no line", 0, row.needed(0, 3));
        due("needed: asking takes no line away", 1, row.part(0, 1));
        due("needed: one line of two that do as well", 0, row.needed(1, 2));
        due("needed: a ring of four", 0, desk(0, 1, 1, 2, 2, 3, 3, 0).needed(0, 1));
        due("needed: one line alone", 1, desk(9, 4).needed(4, 9));
        BlossomDesk bridge = desk(0, 1, 1, 2, 2, 0, 2, 3, 3, 4, 4, 5, 5, 3);
        due("needed: a bridge between triangles", 1, bridge.needed(3, 2));
        due("needed: a line opposite the bridge", 1, bridge.needed(0, 1));
        due("needed: a line beside the bridge", 0, bridge.needed(0, 2));
    }

    private static void promise8Guards() {
        due("guards: a star", 32, desk(5, 0, 5, 1, 5, 2, 5, 9).guards());
        due("guards: point 9", 512, desk(9, 0, 9, 1).guards());
        due("guards: two stars", 3, desk(0, 2, 0, 3, 1, 4, 1, 5).guards());
        due("guards: a triangle has none", 0, desk(0, 1, 1, 2, 2, 0).guards());
        due("guards: nothing spare in a pair", 0, desk(0, 1).guards());
        due("guards: nothing spare at all", 0, Desks.petersen().guards());
        due("guards: beside a guard, not beside a spare", 1, desk(0, 1, 0, 2, 0, 3, 3, 4).guards());
        due("guards: a row of five", 10, desk(0, 1, 1, 2, 2, 3, 3, 4).guards());
    }

    private static void promise9MostWithout() {
        BlossomDesk row = desk(0, 1, 1, 2, 2, 3, 8, 9);
        due("mostWithout: nothing", 3, row.mostWithout(0));
        due("mostWithout: an end", 2, row.mostWithout(1));
        due("mostWithout: a whole pair", 2, row.mostWithout(3));
        due("mostWithout: the two ends", 2, row.mostWithout(9));
        due("mostWithout: point 9", 2, row.mostWithout(512));
        due("mostWithout: a point without a line", 3, row.mostWithout(16));
        due("mostWithout: the points are still there", 3, row.most());
        due("mostWithout: the lines are still there", 0, row.join(8, 9));
    }

    private static void promise10Parts() {
        due("parts: one line", 9, desk(0, 9).parts());
        due("parts: a guard is no part", 9, desk(5, 0, 5, 1, 5, 2, 5, 9).parts());
        due("parts: a guard holds no part together", 8, desk(0, 1, 1, 2, 2, 3, 3, 4).parts());
        due("parts: a triangle", 8, desk(0, 1, 1, 2, 2, 0).parts());
        due("parts: a ring of five is one", 6, desk(0, 1, 1, 2, 2, 3, 3, 4, 4, 0).parts());
        due("parts: a long row in no order", 1, desk(9, 0, 0, 8, 8, 1, 1, 7, 7, 2, 2, 6, 6, 3, 3, 5, 5, 4).parts());
        due("parts: a long row downwards", 1, desk(0, 9, 9, 8, 8, 7, 7, 6, 6, 5, 5, 4, 4, 3, 3, 2, 2, 1).parts());
        due("parts: petersen", 1, Desks.petersen().parts());
        due("parts: five pairs", 5, desk(0, 5, 1, 6, 2, 7, 3, 8, 4, 9).parts());
    }

    private static void objectsAreApart() {
        BlossomDesk one = desk(0, 1);
        BlossomDesk two = new BlossomDesk();
        due("apart: the second has no line", 0, two.most());
        due("apart: the second joins", 1, two.join(2, 3));
        due("apart: the first keeps its own", 1, one.needed(0, 1));
        due("apart: the first has no other", 0, one.usable(2, 3));
    }
}
