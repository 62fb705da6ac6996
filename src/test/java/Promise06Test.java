/** Promise 6: undo. */
public final class Promise06Test {
    private static final Due due = new Due("promise 6, undo");
    private static final String LANE = "@       ";
    private static final String TO_AND_FRO = "7r7l";

    public static void main(String[] args) {
        due.runCases(Promise06Test.class);
    }

    /** How many moves could be undone; what the last call answered is 0. */
    private static int undoAll(Boards boards) {
        int count = 0;
        while (boards.undo() != 0) {
            count++;
        }
        return count;
    }

    static void withoutABoard() {
        due.is("undo()", new Boards().undo(), 0);
    }

    static void noMoveWasDone() {
        Boards boards = Boards.of("@$.");
        due.is("undo()", boards.undo(), 0);
        due.is("picture", boards.picture(), "@$.|");
    }

    static void aMoveThatWentInEachWay() {
        for (int way = 0; way < 4; way++) {
            Boards boards = Boards.of("   | @ |   ");
            due.is("move(" + way + ")", boards.move(way), 1);
            due.is("undo()", boards.undo(), 1);
            due.is("picture", boards.picture(), "   | @ |   |");
            due.is("undo()", boards.undo(), 0);
        }
    }

    static void aPushInEachWay() {
        for (int way = 0; way < 4; way++) {
            Boards boards = Boards.of("     |  $  | $@$ |  $  |     |");
            due.is("move(" + way + ")", boards.move(way), 2);
            due.is("undo()", boards.undo(), 2);
            due.is("picture", boards.picture(), "     |  $  | $@$ |  $  |     |");
            due.is("undo()", boards.undo(), 0);
        }
    }

    static void aPushToAGoalAndOffOne() {
        Boards boards = Boards.of("+*.$$");
        due.is("move(0)", boards.move(0), 2);
        due.is("picture", boards.picture(), ".+*$$|");
        due.is("undo()", boards.undo(), 2);
        due.is("picture", boards.picture(), "+*.$$|");
    }

    /** A box that was beside the person but was not pushed stays. */
    static void aWalkPastABoxIsNoPush() {
        Boards boards = Boards.of("@ $ ");
        due.is("move(0)", boards.move(0), 1);
        due.is("undo()", boards.undo(), 1);
        due.is("picture", boards.picture(), "@ $ |");
    }

    static void theLatestComesFirst() {
        Boards boards = Boards.of("@$   |     ");
        due.is("row()", boards.row("rdrrul"), 6);
        due.is("picture", boards.picture(), " $@  |     |");
        int[] was = {2, 1, 1, 1, 1, 2};
        String[] before = {"  $@ |     |", "  $  |   @ |", "  $  |  @  |", "  $  | @   |", " @$  |     |", "@$   |     |"};
        for (int i = 0; i < was.length; i++) {
            due.is("undo() " + i, boards.undo(), was[i]);
            due.is("picture " + i, boards.picture(), before[i]);
        }
        due.is("none is left", boards.undo(), 0);
    }

    static void aMoveThatCouldNotBeDoneIsNotUndone() {
        Boards boards = Boards.of(LANE);
        due.is("move(0)", boards.move(0), 1);
        due.is("move(1)", boards.move(1), 0);
        due.is("row()", boards.row("u"), -1);
        due.is("undo()", boards.undo(), 1);
        due.is("undo()", boards.undo(), 0);
    }

    static void movesOfARowAreUndoneOneByOne() {
        Boards boards = Boards.of(LANE);
        due.is("row()", boards.row("3r"), 3);
        due.is("undo()", boards.undo(), 1);
        due.is("told(7)", boards.told(7), 2);
        due.is("undo() of the others", undoAll(boards), 2);
    }

    static void movesOfARowThatEndedTooSoon() {
        Boards boards = Boards.of("@   ");
        due.is("row()", boards.row("2r9r"), -4);
        due.is("undo() of those done", undoAll(boards), 3);
        due.is("told(7)", boards.told(7), 0);
    }

    static void anUndoneMoveIsNotUndoneAgain() {
        Boards boards = Boards.of(LANE);
        due.is("row()", boards.row("2r"), 2);
        due.is("undo()", boards.undo(), 1);
        due.is("move(0)", boards.move(0), 1);
        due.is("undo() of both", undoAll(boards), 2);
        due.is("told(7)", boards.told(7), 0);
    }

    static void noneIsLeftSinceTheBoardWasRead() {
        Boards boards = Boards.of(LANE);
        due.is("row()", boards.row("3r"), 3);
        due.is("read()", boards.read(" @$ "), 1);
        due.is("undo()", boards.undo(), 0);
        due.is("picture", boards.picture(), " @$ |");
        due.is("move(0)", boards.move(0), 2);
        due.is("undo()", boards.undo(), 2);
        due.is("undo()", boards.undo(), 0);
        due.is("picture", boards.picture(), " @$ |");
    }

    static void someAreLeftBehindARefusedPicture() {
        Boards boards = Boards.of(LANE);
        due.is("row()", boards.row("3r"), 3);
        due.is("read()", boards.read("@@"), -2);
        due.is("undo()", undoAll(boards), 3);
    }

    /**
     * Each undo is a call, and 500 moves need some 140: so that the 501st can't be undone is seen in no run of
     * 512 calls (letter() tells it, in promise 9). That the latest ones can be is seen for all that are left.
     */
    static void moreThan500MovesAndAllTheUndosThatAreLeft() {
        Boards boards = Boards.of("@       |_$");
        due.is("row()", boards.row("7r7l".repeat(35) + "d6r6lu7r"), 511);
        String latest = "d" + "RRRRRR" + "llllll" + "u" + "rrrrrrr";
        for (int i = latest.length() - 1; i >= 0; i--) {
            due.is("undo() of " + latest.charAt(i), boards.undo(), Character.isUpperCase(latest.charAt(i)) ? 2 : 1);
        }
        due.is("told(7)", boards.told(7), 0);
        due.is("told(6)", boards.told(6), 0);
        int left = 490;
        while (boards.callsLeft() > 2) {
            due.is("undo()", boards.undo(), 1);
            left--;
        }
        due.is("told(5)", boards.told(5), left);
        due.is("told(7)", boards.told(7), left % 14 <= 7 ? left % 14 : 14 - left % 14);
    }

    static void moves500AreUndoneAsFewAre() {
        Boards boards = Boards.of(LANE);
        due.is("row()", boards.row(TO_AND_FRO.repeat(35) + "7r3l"), 500);
        due.is("undo()", boards.undo(), 1);
        due.is("told(5)", boards.told(5), 499);
        due.is("told(7)", boards.told(7), 5);
        due.is("move(2)", boards.move(2), 1);
        due.is("move(2), the 501st", boards.move(2), 1);
        due.is("undo()", boards.undo(), 1);
        due.is("undo()", boards.undo(), 1);
        due.is("told(5)", boards.told(5), 499);
        due.is("told(7)", boards.told(7), 5);
    }
}
