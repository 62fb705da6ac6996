/** Promise 10: reach. */
public final class Promise10Test {
    private static final Due due = new Due("promise 10, reach");

    public static void main(String[] args) {
        due.runCases(Promise10Test.class);
    }

    private static void is(String picture, int cells) {
        due.is(picture + " reach()", Boards.of(picture).reach(), cells);
    }

    static void withoutABoard() {
        due.is("reach()", new Boards().reach(), 0);
    }

    static void withoutABoardBehindARefusedPicture() {
        Boards boards = new Boards();
        due.is("read()", boards.read(" @ ."), -200);
        due.is("reach()", boards.reach(), 0);
    }

    static void onlyThePersonsCell() {
        is("@", 1);
        is("###|#@#|###", 1);
        is("$$$|$@$|$$$", 1);
    }

    static void allCellsOfTheLargestBoard() {
        is("@       ||||||||", 64);
        is("|||||||       @", 64);
    }

    static void wallsEndIt() {
        is("@ #  ", 2);
        is("@ # |####|    ", 2);
    }

    static void boxesEndIt() {
        is("@ $  ", 2);
        is("@ *  ", 2);
        is("$$$$$|@    ", 5);
    }

    static void goalsDoNotEndIt() {
        is("@..$$", 3);
    }

    static void notAslant() {
        is("@#|# ", 1);
        is("@$|$ ", 1);
    }

    static void notRoundTheEdge() {
        is("       @|#######$|        ", 8);
        is("@      #|       $|########|        ", 14);
        is("  @|###|   ", 3);
    }

    static void roundManyCorners() {
        is("@       |####### |        | #######|        |####### |        | #######", 36);
    }

    static void behindAPushAndItsUndo() {
        Boards boards = Boards.of("@$   ");
        due.is("reach()", boards.reach(), 1);
        due.is("move(0)", boards.move(0), 2);
        due.is("reach()", boards.reach(), 2);
        due.is("undo()", boards.undo(), 2);
        due.is("reach()", boards.reach(), 1);
    }
}
