/** Promise 5: move. */
public final class Promise05Test {
    private static final Due due = new Due("promise 5, move");
    private static final String CROSS = "     |  $  | $@$ |  $  |     |";

    public static void main(String[] args) {
        due.runCases(Promise05Test.class);
    }

    /** A way in which the board lets the person do nothing: 0, and nothing is done. */
    private static void cantBeDone(String picture, int way) {
        Boards boards = Boards.of(picture);
        String before = boards.picture();
        due.is(before + " move(" + way + ")", boards.move(way), 0);
        due.is("picture", boards.picture(), before);
        due.is("told(5)", boards.told(5), 0);
        due.is("told(6)", boards.told(6), 0);
        due.is("letter(0)", boards.letter(0), -1);
        due.is("undo()", boards.undo(), 0);
    }

    static void theFirstWay() {
        due.is("move(0)", Boards.of("@ ").move(0), 1);
    }

    static void theLastWay() {
        due.is("move(3)", Boards.of(" |@").move(3), 1);
    }

    static void aWayTooSmall() {
        for (int way : Boards.TOO_SMALL) {
            Boards boards = Boards.of("   | @ |   ");
            due.is("move(" + way + ")", boards.move(way), Boards.NO_INDEX);
            due.is("told(5)", boards.told(5), 0);
            due.is("told(7)", boards.told(7), 4);
        }
    }

    static void aWayTooLarge() {
        for (int way : new int[] {4, 5, 8, Integer.MAX_VALUE}) {
            Boards boards = Boards.of("   | @ |   ");
            due.is("move(" + way + ")", boards.move(way), Boards.NO_INDEX);
            due.is("told(5)", boards.told(5), 0);
            due.is("told(7)", boards.told(7), 4);
        }
    }

    static void withoutABoard() {
        for (int way = 0; way < 4; way++) {
            due.is("move(" + way + ")", new Boards().move(way), Boards.NO_BOARD);
        }
    }

    static void withoutABoardAndNoSuchWay() {
        for (int way : new int[] {-1, 4, Integer.MIN_VALUE, Integer.MAX_VALUE}) {
            due.is("move(" + way + ")", new Boards().move(way), Boards.NO_BOARD);
        }
    }

    static void withoutABoardBehindARefusedPicture() {
        Boards boards = new Boards();
        due.is("read()", boards.read("@."), -200);
        due.is("move(0)", boards.move(0), Boards.NO_BOARD);
        due.is("move(9)", boards.move(9), Boards.NO_BOARD);
    }

    static void toFloorInEachWay() {
        int[] person = {5, 7, 3, 1};
        for (int way = 0; way < 4; way++) {
            Boards boards = Boards.of("   | @ |   ");
            due.is("move(" + way + ")", boards.move(way), 1);
            due.is("told(7)", boards.told(7), person[way]);
        }
    }

    static void toAGoal() {
        Boards boards = Boards.of("@.$");
        due.is("move(0)", boards.move(0), 1);
        due.is("picture", boards.picture(), " +$|");
    }

    static void aPushInEachWay() {
        String[] after = {"     |  $  | $ @$|  $  |     |", "     |  $  | $ $ |  @  |  $  |",
            "     |  $  |$@ $ |  $  |     |", "  $  |  @  | $ $ |  $  |     |"};
        for (int way = 0; way < 4; way++) {
            Boards boards = Boards.of(CROSS);
            due.is("move(" + way + ")", boards.move(way), 2);
            due.is("picture", boards.picture(), after[way]);
        }
    }

    static void aPushToAGoal() {
        Boards boards = Boards.of("@$.");
        due.is("move(0)", boards.move(0), 2);
        due.is("picture", boards.picture(), " @*|");
    }

    static void aPushOffAGoal() {
        Boards boards = Boards.of("@* ");
        due.is("move(0)", boards.move(0), 2);
        due.is("picture", boards.picture(), " +$|");
    }

    static void toAWall() {
        cantBeDone("###|#@#|###", 0);
        cantBeDone("###|#@#|###", 1);
        cantBeDone("###|#@#|###", 2);
        cantBeDone("###|#@#|###", 3);
    }

    static void aBoxWithAWallBehindIt() {
        cantBeDone("@$# ", 0);
        cantBeDone("@|$|#|_", 1);
        cantBeDone(" #$@", 2);
        cantBeDone("_|#|$|@", 3);
    }

    static void aBoxWithABoxBehindIt() {
        cantBeDone("@$$ ", 0);
        cantBeDone("@$* ", 0);
        cantBeDone("@|$|$|_", 1);
        cantBeDone(" $$@", 2);
        cantBeDone("_|$|$|@", 3);
    }
}
