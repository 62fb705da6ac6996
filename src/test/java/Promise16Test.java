/** Promise 16: pushes. */
public final class Promise16Test {
    private static final Due due = new Due("promise 16, pushes");
    private static final int[] NO_PLACES = {-1, 8, 9, Integer.MIN_VALUE, Integer.MAX_VALUE};

    public static void main(String[] args) {
        due.runCases(Promise16Test.class);
    }

    private static void is(String picture, int x, int y, int x2, int y2, long want) {
        String call = picture + " pushes(" + x + ", " + y + ", " + x2 + ", " + y2 + ")";
        due.is(call, Boards.of(picture).pushes(x, y, x2, y2), want);
    }

    static void withoutABoard() {
        due.is("pushes(0, 0, 0, 0)", new Boards().pushes(0, 0, 0, 0), Boards.NO_INDEX);
        due.is("pushes(-1, 9, 0, 0)", new Boards().pushes(-1, 9, 0, 0), Boards.NO_INDEX);
    }

    static void noSuchFirstColumn() {
        is("@  |   ", 3, 0, 0, 0, Boards.NO_INDEX);
        for (int place : NO_PLACES) {
            is("@  |   ", place, 0, 0, 0, Boards.NO_INDEX);
        }
    }

    static void noSuchFirstRow() {
        is("@  |   ", 0, 2, 0, 0, Boards.NO_INDEX);
        for (int place : NO_PLACES) {
            is("@  |   ", 0, place, 0, 0, Boards.NO_INDEX);
        }
    }

    static void noSuchSecondColumn() {
        is("@  |   ", 0, 0, 3, 0, Boards.NO_INDEX);
        for (int place : NO_PLACES) {
            is("@  |   ", 0, 0, place, 0, Boards.NO_INDEX);
        }
    }

    static void noSuchSecondRow() {
        is("@  |   ", 0, 0, 0, 2, Boards.NO_INDEX);
        for (int place : NO_PLACES) {
            is("@  |   ", 0, 0, 0, place, Boards.NO_INDEX);
        }
    }

    static void noSuchCellFromAWall() {
        is("@ #", 2, 0, 3, 0, Boards.NO_INDEX);
        is("@ #", 3, 0, 2, 0, Boards.NO_INDEX);
    }

    static void theLastColumnAndRow() {
        is("@  |   |   ", 2, 1, 2, 2, 1);
        is("@  |   |   ", 1, 2, 2, 2, 1);
        is("@       ||||||||", 7, 6, 7, 7, 1);
        is("@       ||||||||", 8, 7, 7, 7, Boards.NO_INDEX);
        is("@       ||||||||", 7, 7, 7, 8, Boards.NO_INDEX);
    }

    static void noStep() {
        is("@$ ", 1, 0, 1, 0, 0);
        is("@", 0, 0, 0, 0, 0);
        is("@ |  ", 1, 1, 1, 1, 0);
    }

    static void oneStepInEachWay() {
        is("@  |   |   ", 1, 1, 2, 1, 1);
        is("@  |   |   ", 1, 1, 1, 2, 1);
        is("@  |   |   ", 1, 1, 0, 1, 1);
        is("@  |   |   ", 1, 1, 1, 0, 1);
    }

    static void fromAWall() {
        is("@ # ", 2, 0, 3, 0, -1);
        is("   | # |  @", 1, 1, 1, 0, -1);
    }

    static void toAWall() {
        is("@ # ", 1, 0, 2, 0, -1);
    }

    static void fromAWallToItself() {
        is("@ # ", 2, 0, 2, 0, -1);
    }

    static void toACellCutOff() {
        is("@   #  ", 1, 0, 5, 0, -1);
    }

    static void outOfACorner() {
        is("@     |      |      |      ", 0, 0, 0, 1, -1);
        is("@     |      |      |      ", 0, 0, 1, 0, -1);
        is("@     |      |      |      ", 5, 3, 4, 3, -1);
    }

    static void intoACorner() {
        is("@     |      |      |      ", 1, 1, 0, 0, 2);
        is("@     |      |      |      ", 4, 2, 5, 3, 2);
    }

    static void alongAndOffTheEdge() {
        is("@     |      |      |      ", 0, 1, 0, 3, 2);
        is("@     |      |      |      ", 0, 1, 1, 1, -1);
    }

    static void notRoundTheEdge() {
        is("@       |        |        ", 6, 1, 0, 2, 7);
        is("@       |        |        ", 7, 1, 0, 2, -1);
    }

    static void boxesDoNotHinder() {
        is("@$$.#", 1, 0, 3, 0, 2);
        is("@ * $ ", 1, 0, 4, 0, 3);
    }

    static void thePersonDoesNotHinder() {
        is(" @ $ ", 3, 0, 0, 0, 3);
        is("  @  ", 1, 0, 4, 0, 3);
        is("@#   ", 3, 0, 4, 0, 1);
    }

    static void withoutABoxThere() {
        is("@    ", 1, 0, 3, 0, 2);
    }

    /** There and back are not the same: against the way there must be floor. */
    static void oneWayOnly() {
        is("@  #", 1, 0, 2, 0, 1);
        is("@  #", 2, 0, 1, 0, -1);
    }

    static void behindMovesItIsTheSame() {
        Boards boards = Boards.of("@$  ");
        due.is("pushes(1, 0, 3, 0)", boards.pushes(1, 0, 3, 0), 2);
        due.is("move(0)", boards.move(0), 2);
        due.is("pushes(1, 0, 3, 0)", boards.pushes(1, 0, 3, 0), 2);
    }
}
