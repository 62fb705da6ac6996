/** Promise 7: told. */
public final class Promise07Test {
    private static final Due due = new Due("promise 7, told");

    public static void main(String[] args) {
        due.runCases(Promise07Test.class);
    }

    private static void all(Boards boards, int... want) {
        for (int what = 0; what < want.length; what++) {
            due.is("told(" + what + ")", boards.told(what), want[what]);
        }
    }

    private static void done(String picture, int want) {
        due.is(picture + " told(8)", Boards.of(picture).told(8), want);
    }

    static void withoutABoard() {
        all(new Boards(), 0, 0, 0, 0, 0, 0, 0, -1, 0);
    }

    static void withoutABoardBehindARefusedPicture() {
        Boards boards = new Boards();
        due.is("read()", boards.read("$@$..."), -200);
        all(boards, 0, 0, 0, 0, 0, 0, 0, -1, 0);
        due.is("row()", boards.row("rr"), -1);
        all(boards, 0, 0, 0, 0, 0, 0, 0, -1, 0);
    }

    static void thereIsNoSuchThingBelow() {
        for (int what : Boards.TOO_SMALL) {
            due.is("told(" + what + ")", Boards.of("@$.").told(what), -1);
            due.is("told(" + what + ") without a board", new Boards().told(what), -1);
        }
    }

    static void thereIsNoSuchThingAbove() {
        for (int what : new int[] {9, 10, 16, Integer.MAX_VALUE}) {
            due.is("told(" + what + ")", Boards.of("@$.").told(what), -1);
            due.is("told(" + what + ") without a board", new Boards().told(what), -1);
        }
    }

    static void theSmallestBoard() {
        all(Boards.of("@"), 1, 1, 0, 0, 0, 0, 0, 0, 1);
    }

    static void theLargestBoard() {
        all(Boards.of("        |".repeat(7) + "       @"), 8, 8, 0, 0, 0, 0, 0, 63, 1);
    }

    static void widthAndHeightAreNotTheSame() {
        all(Boards.of("#####|#  @#"), 5, 2, 0, 0, 0, 0, 0, 8, 1);
        all(Boards.of("#|#|#|@|#"), 1, 5, 0, 0, 0, 0, 0, 3, 1);
    }

    static void widthOfTheLongestRow() {
        all(Boards.of("#|####|@"), 4, 3, 0, 0, 0, 0, 0, 8, 1);
    }

    static void twelveBoxesAndGoals() {
        all(Boards.of("******|*****$|@    ."), 6, 3, 12, 12, 11, 0, 0, 12, 0);
    }

    static void boxesOnAndOffGoals() {
        all(Boards.of("@*$.$"), 5, 1, 3, 2, 1, 0, 0, 0, 0);
        all(Boards.of("+$$"), 3, 1, 2, 1, 0, 0, 0, 0, 0);
    }

    static void movesAndPushesAreCounted() {
        Boards boards = Boards.of("#######|#+$ $ #|# * . #|#######");
        all(boards, 7, 4, 3, 3, 1, 0, 0, 8, 0);
        due.is("move(0)", boards.move(0), 2);
        all(boards, 7, 4, 3, 3, 1, 1, 1, 9, 0);
        due.is("row()", boards.row("ldr"), 3);
        all(boards, 7, 4, 3, 3, 0, 4, 2, 16, 0);
        due.is("move(0)", boards.move(0), 2);
        all(boards, 7, 4, 3, 3, 1, 5, 3, 17, 0);
    }

    static void aMoveThatCouldNotBeDoneIsNotCounted() {
        Boards boards = Boards.of("@$$ ");
        due.is("move(0)", boards.move(0), 0);
        due.is("move(3)", boards.move(3), 0);
        due.is("told(5)", boards.told(5), 0);
        due.is("told(6)", boards.told(6), 0);
    }

    static void undoneMovesAreNotCounted() {
        Boards boards = Boards.of("@ $  ");
        due.is("row()", boards.row("2rl"), 3);
        due.is("told(5)", boards.told(5), 3);
        due.is("told(6)", boards.told(6), 1);
        due.is("undo()", boards.undo(), 1);
        due.is("told(5)", boards.told(5), 2);
        due.is("told(6)", boards.told(6), 1);
        due.is("undo()", boards.undo(), 2);
        due.is("told(5)", boards.told(5), 1);
        due.is("told(6)", boards.told(6), 0);
        due.is("told(7)", boards.told(7), 1);
        due.is("undo()", boards.undo(), 1);
        due.is("undo() of none", boards.undo(), 0);
        due.is("told(5)", boards.told(5), 0);
        due.is("told(6)", boards.told(6), 0);
    }

    /** Only 500 moves are kept to be undone, but all are counted. */
    static void moreThan500MovesAreCounted() {
        Boards boards = Boards.of("@       ");
        due.is("row()", boards.row("7r7l".repeat(40)), 560);
        due.is("told(5)", boards.told(5), 560);
        due.is("undo()", boards.undo(), 1);
        due.is("told(5)", boards.told(5), 559);
    }

    static void pushesAmongMoreThan500MovesAreCounted() {
        Boards boards = Boards.of("@$      |");
        due.is("row()", boards.row("6r6l" + "6r6l".repeat(39)), 480);
        due.is("told(6)", boards.told(6), 6);
        due.is("row()", boards.row("6r6l".repeat(10)), 120);
        due.is("told(5)", boards.told(5), 600);
        due.is("told(6)", boards.told(6), 6);
    }

    static void movesOfTheBoardBeforeAreNotCounted() {
        Boards boards = Boards.of("@$  ");
        due.is("row()", boards.row("2r"), 2);
        due.is("read()", boards.read("@$  "), 1);
        due.is("told(5)", boards.told(5), 0);
        due.is("told(6)", boards.told(6), 0);
    }

    static void doneWhenEachGoalHasABox() {
        done("@*", 1);
        done("@**", 1);
        done("@.*$", 0);
    }

    static void doneWithMoreBoxesThanGoals() {
        done("@*$", 1);
        done("@$.$", 0);
    }

    static void doneWithoutGoals() {
        done("@", 1);
        done("@$", 1);
    }

    static void notDoneWithThePersonOnTheGoal() {
        done("+$", 0);
        done("+*$", 0);
    }

    static void doneByAPushAndNotByItsUndo() {
        Boards boards = Boards.of("@$.");
        due.is("told(8)", boards.told(8), 0);
        due.is("move(0)", boards.move(0), 2);
        due.is("told(8)", boards.told(8), 1);
        due.is("undo()", boards.undo(), 2);
        due.is("told(8)", boards.told(8), 0);
    }

    static void noLongerDoneByAPush() {
        Boards boards = Boards.of("@* ");
        due.is("move(0)", boards.move(0), 2);
        due.is("told(8)", boards.told(8), 0);
        due.is("told(4)", boards.told(4), 0);
    }
}
