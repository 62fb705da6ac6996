/** Promise 9: letter. */
public final class Promise09Test {
    private static final Due due = new Due("promise 9, letter");
    private static final String LANE = "@       ";
    private static final String TO_AND_FRO = "7r7l";

    public static void main(String[] args) {
        due.runCases(Promise09Test.class);
    }

    static void withoutABoard() {
        Boards boards = new Boards();
        for (int i : new int[] {0, -1, 499, Integer.MAX_VALUE}) {
            due.is("letter(" + i + ")", boards.letter(i), -1);
        }
    }

    static void noMoveWasDone() {
        due.is("letter(0)", Boards.of(LANE).letter(0), -1);
    }

    static void noLetterBelow() {
        Boards boards = Boards.of(LANE);
        due.is("row()", boards.row("rr"), 2);
        for (int i : Boards.TOO_SMALL) {
            due.is("letter(" + i + ")", boards.letter(i), -1);
        }
    }

    static void noLetterAbove() {
        Boards boards = Boards.of(LANE);
        due.is("row()", boards.row("rr"), 2);
        due.is("letter(1)", boards.letter(1), 'r');
        for (int i : new int[] {2, 3, 499, 500, 502, Integer.MAX_VALUE}) {
            due.is("letter(" + i + ")", boards.letter(i), -1);
        }
    }

    static void smallOnesForEachWay() {
        Boards boards = Boards.of("   | @ |   ");
        due.is("row()", boards.row("RDLU"), 4);
        due.is("letters", boards.letters(), "rdlu");
    }

    static void greatOnesForPushes() {
        for (int way = 0; way < 4; way++) {
            Boards boards = Boards.of("     |  $  | $@$ |  $  |     ");
            due.is("move(" + way + ")", boards.move(way), 2);
            due.is("letter(0)", boards.letter(0), "RDLU".charAt(way));
        }
    }

    static void theOldestFirst() {
        Boards boards = Boards.of("@$   |     ");
        due.is("row()", boards.row("rdrrul"), 6);
        due.is("letters", boards.letters(), "RdrruL");
    }

    static void aMoveThatCouldNotBeDoneHasNone() {
        Boards boards = Boards.of("@$$ ");
        due.is("move(0)", boards.move(0), 0);
        due.is("letter(0)", boards.letter(0), -1);
    }

    static void anUndoneMoveHasNone() {
        Boards boards = Boards.of(LANE);
        due.is("row()", boards.row("3r"), 3);
        due.is("undo()", boards.undo(), 1);
        due.is("letters", boards.letters(), "rr");
        due.is("move(2)", boards.move(2), 1);
        due.is("letters", boards.letters(), "rrl");
    }

    static void noneOfTheBoardBefore() {
        Boards boards = Boards.of(LANE);
        due.is("row()", boards.row("3r"), 3);
        due.is("read()", boards.read("@ "), 0);
        due.is("letter(0)", boards.letter(0), -1);
        due.is("move(0)", boards.move(0), 1);
        due.is("letters", boards.letters(), "r");
    }

    static void exactly500() {
        Boards boards = Boards.of(LANE);
        due.is("row()", boards.row(TO_AND_FRO.repeat(35) + "7r3l"), 500);
        for (int i = 0; i < 20; i++) {
            due.is("letter(" + i + ")", boards.letter(i), i % 14 < 7 ? 'r' : 'l');
        }
        due.is("letter(496)", boards.letter(496), 'r');
        due.is("letter(497)", boards.letter(497), 'l');
        due.is("letter(499)", boards.letter(499), 'l');
        due.is("letter(500)", boards.letter(500), -1);
    }

    /** The first of all is gone: seven letters r were first, now there are six. */
    static void the501st() {
        Boards boards = Boards.of(LANE);
        due.is("row()", boards.row(TO_AND_FRO.repeat(35) + "7r4l"), 501);
        due.is("letter(5)", boards.letter(5), 'r');
        due.is("letter(6)", boards.letter(6), 'l');
        due.is("letter(495)", boards.letter(495), 'r');
        due.is("letter(496)", boards.letter(496), 'l');
        due.is("letter(499)", boards.letter(499), 'l');
        due.is("letter(500)", boards.letter(500), -1);
        due.is("letter(501)", boards.letter(501), -1);
    }

    static void manyMoreThan500() {
        Boards boards = Boards.of("@$      ");
        due.is("row()", boards.row("6r6l" + "6r6l".repeat(39)), 480);
        due.is("letter(0)", boards.letter(0), 'R');
        due.is("row()", boards.row("6r6l".repeat(7)), 84);
        int first = 564 - 500;
        for (int i = 0; i < 30; i++) {
            due.is("letter(" + i + ")", boards.letter(i), (first + i) % 12 < 6 ? 'r' : 'l');
        }
        due.is("letter(493)", boards.letter(493), 'r');
        due.is("letter(494)", boards.letter(494), 'l');
        due.is("letter(499)", boards.letter(499), 'l');
        due.is("letter(500)", boards.letter(500), -1);
    }

    /** What made room for newer moves is gone: an undo brings it back to nobody. */
    static void undoneBehindMoreThan500() {
        Boards boards = Boards.of(LANE);
        due.is("row()", boards.row(TO_AND_FRO.repeat(36) + "3r"), 507);
        due.is("letter(0), the eighth", boards.letter(0), 'l');
        for (int i = 0; i < 4; i++) {
            due.is("undo()", boards.undo(), 1);
        }
        due.is("letter(0)", boards.letter(0), 'l');
        due.is("letter(6)", boards.letter(6), 'l');
        due.is("letter(7)", boards.letter(7), 'r');
        due.is("letter(495)", boards.letter(495), 'l');
        due.is("letter(496)", boards.letter(496), -1);
        due.is("move(0)", boards.move(0), 1);
        due.is("letter(496)", boards.letter(496), 'r');
        due.is("letter(497)", boards.letter(497), -1);
    }
}
