/**
 * "An object is used for at most 512 calls after it has been made": the 512th
 * call of each method still answers as promised, whatever calls came before.
 */
public final class LastCallTest {
    private static final int CALLS = 512;

    private interface Call {
        int on(BlossomDesk desk);
    }

    private record Known(String name, int answer, Call call) {
    }

    // On the row 0-1-2-3-4. The joins and parts among them change no line.
    private static final Known[] KNOWN = {
        new Known("join(1, 0)", 0, desk -> desk.join(1, 0)),
        new Known("part(0, 2)", 0, desk -> desk.part(0, 2)),
        new Known("join(0, 10)", -1, desk -> desk.join(0, 10)),
        new Known("part(1, 1)", -1, desk -> desk.part(1, 1)),
        new Known("most()", 2, BlossomDesk::most),
        new Known("spare(2)", 1, desk -> desk.spare(2)),
        new Known("spare(3)", 0, desk -> desk.spare(3)),
        new Known("spare(-1)", -1, desk -> desk.spare(-1)),
        new Known("usable(1, 2)", 1, desk -> desk.usable(1, 2)),
        new Known("usable(0, 4)", 0, desk -> desk.usable(0, 4)),
        new Known("needed(0, 1)", 0, desk -> desk.needed(0, 1)),
        new Known("guards()", 2 + 8, BlossomDesk::guards),
        new Known("mostWithout(4)", 2, desk -> desk.mostWithout(4)),
        new Known("mostWithout(-1023)", 2, desk -> desk.mostWithout(-1023)),
        new Known("mostWithout(2)", 1, desk -> desk.mostWithout(2)),
        new Known("parts()", 8, BlossomDesk::parts),
    };

    private static final Answers answers = new Answers();

    public static void main(String[] args) {
        for (Known last : KNOWN) {
            for (Known before : KNOWN) {
                lastAfterTheSameCall(before, last);
            }
            lastAfterManyChanges(last);
        }
        lastCallPartsALine();
        lastCallJoinsALine();
        answers.finish();
    }

    private static void due(Known known, int number, BlossomDesk desk) {
        answers.due("call " + number + ": " + known.name(), known.answer(), known.call().on(desk));
    }

    private static void lastAfterTheSameCall(Known before, Known last) {
        BlossomDesk desk = Desks.withLines(0, 1, 1, 2, 2, 3, 3, 4);
        for (int number = 5; number < CALLS; number++) {
            due(before, number, desk);
        }
        due(last, CALLS, desk);
    }

    private static void lastAfterManyChanges(Known last) {
        BlossomDesk desk = Desks.withLines(0, 1, 1, 2, 2, 3, 3, 4);
        desk.most();
        for (int number = 6; number < CALLS; number += 2) {
            answers.due("call " + number + ": part(2, 3)", 1, desk.part(2, 3));
            answers.due("call " + (number + 1) + ": join(2, 3)", 1, desk.join(2, 3));
        }
        due(last, CALLS, desk);
    }

    private static void lastCallPartsALine() {
        BlossomDesk desk = new BlossomDesk();
        for (int number = 1; number <= CALLS; number += 2) {
            answers.due("call " + number + ": join(0, 9)", 1, desk.join(0, 9));
            answers.due("call " + (number + 1) + ": part(9, 0)", 1, desk.part(9, 0));
        }
    }

    private static void lastCallJoinsALine() {
        BlossomDesk desk = new BlossomDesk();
        answers.due("call 1: part(0, 9)", 0, desk.part(0, 9));
        for (int number = 2; number < CALLS; number += 2) {
            answers.due("call " + number + ": join(0, 9)", 1, desk.join(0, 9));
            answers.due("call " + (number + 1) + ": part(9, 0)", 1, desk.part(9, 0));
        }
        answers.due("call " + CALLS + ": join(9, 0)", 1, desk.join(9, 0));
    }
}
