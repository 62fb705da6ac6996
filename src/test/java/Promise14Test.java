/** Promise 14: stuck. */
public final class Promise14Test {
    private static final Due due = new Due("promise 14, stuck");

    public static void main(String[] args) {
        due.runCases(Promise14Test.class);
    }

    private static void is(String picture, boolean stuck) {
        due.is(picture + " stuck()", Boards.of(picture).stuck(), stuck);
    }

    static void withoutABoard() {
        due.is("stuck()", new Boards().stuck(), false);
    }

    static void withoutABoardBehindARefusedPicture() {
        Boards boards = new Boards();
        due.is("read()", boards.read("$$$"), -200);
        due.is("stuck()", boards.stuck(), false);
    }

    static void withoutBoxes() {
        is("@", false);
    }

    static void noBoxStandsFast() {
        is("@$.", false);
    }

    static void aBoxStandsFastOffTheGoals() {
        is("$  |   |.@ ", true);
    }

    static void aBoxStandsFastOnAGoal() {
        is("*  |   | @ ", false);
    }

    static void allTwelveStandFastOnGoals() {
        is("******|******|@     ", false);
    }

    static void oneOfTwelveStandsFastOffTheGoals() {
        is("******|*****$|@    .", true);
    }

    static void oneOnAGoalAndOneOff() {
        is("*  |  $|@  ", true);
    }

    static void alsoWhenItIsDone() {
        is("@|$$$", true);
        is("@*$", true);
    }

    static void behindAPushAndItsUndo() {
        Boards boards = Boards.of("     |     |@$ . |     |     ");
        due.is("row()", boards.row("2r"), 2);
        due.is("stuck()", boards.stuck(), false);
        due.is("move(0)", boards.move(0), 2);
        due.is("stuck() at the edge", boards.stuck(), true);
        due.is("undo()", boards.undo(), 2);
        due.is("stuck()", boards.stuck(), false);
    }
}
