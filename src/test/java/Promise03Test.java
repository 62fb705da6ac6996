/** Promise 3: read. */
public final class Promise03Test {
    private static final Due due = new Due("promise 3, read");
    private static final String DOZEN_BOXES = "$$$$$$|$$$$$$|";
    private static final String DOZEN_GOALS = "......|......|";
    private static final String FULL = "        |".repeat(7) + "       @|";

    public static void main(String[] args) {
        due.runCases(Promise03Test.class);
    }

    private static void is(String picture, int answer) {
        due.is("read() of " + picture, new Boards().read(picture), answer);
    }

    private static void drawn(String picture, int boxes, String again) {
        Boards boards = new Boards();
        due.is("read() of " + picture, boards.read(picture), boxes);
        due.is("picture of " + picture, boards.picture(), again);
    }

    static void aWall() {
        drawn("@#", 0, "@#|");
        due.is("move(0)", Boards.of("@#").move(0), 0);
    }

    static void aBlankIsFloor() {
        drawn("@ ", 0, "@ |");
        due.is("move(0)", Boards.of("@ ").move(0), 1);
    }

    static void anUnderscoreIsFloor() {
        drawn("@_", 0, "@ |");
        due.is("move(0)", Boards.of("@_").move(0), 1);
    }

    static void aGoal() {
        Boards boards = Boards.of("@.$");
        due.is("told(3)", boards.told(3), 1);
        due.is("told(2)", boards.told(2), 1);
        due.is("picture(1)", boards.picture(1), '.');
    }

    static void aBox() {
        Boards boards = Boards.of("@$");
        due.is("told(2)", boards.told(2), 1);
        due.is("told(3)", boards.told(3), 0);
    }

    static void aBoxOnAGoal() {
        Boards boards = Boards.of("@*");
        due.is("told(2)", boards.told(2), 1);
        due.is("told(3)", boards.told(3), 1);
        due.is("told(4)", boards.told(4), 1);
    }

    static void thePerson() {
        Boards boards = Boards.of(" @");
        due.is("told(7)", boards.told(7), 1);
        due.is("told(3)", boards.told(3), 0);
    }

    static void thePersonOnAGoal() {
        Boards boards = Boards.of("$+");
        due.is("told(7)", boards.told(7), 1);
        due.is("told(3)", boards.told(3), 1);
        due.is("told(2)", boards.told(2), 1);
    }

    static void byte10EndsARow() {
        drawn("@\n#\n$", 1, "@|#|$|");
    }

    static void aBarEndsARow() {
        drawn("@|#|$", 1, "@|#|$|");
    }

    static void bothEndsInOnePicture() {
        drawn("@|#\n$|_\n", 1, "@|#|$| |");
    }

    static void anEndBehindTheLastRow() {
        drawn("@ |# |", 0, "@ |# |");
        drawn("@ |# \n", 0, "@ |# |");
    }

    static void noEndBehindTheLastRow() {
        drawn("@ |# ", 0, "@ |# |");
    }

    static void theFirstRowEndsBeforeTheLongest() {
        drawn("@|###", 0, "@  |###|");
    }

    static void aRowBetweenEndsBeforeTheLongest() {
        drawn("###|#|@##", 0, "###|#  |@##|");
    }

    static void theLastRowEndsBeforeTheLongest() {
        drawn("####|@", 0, "####|@   |");
        due.is("move(0), the rest is floor", Boards.of("####|@").move(0), 1);
    }

    static void anEmptyRowIsFloor() {
        drawn("|@#", 0, "  |@#|");
        drawn("#@||##", 0, "#@|  |##|");
        drawn("#@||", 0, "#@|  |");
    }

    static void theSmallestBoard() {
        Boards boards = new Boards();
        due.is("read()", boards.read("@"), 0);
        due.is("told(0)", boards.told(0), 1);
        due.is("told(1)", boards.told(1), 1);
    }

    static void theLargestBoard() {
        Boards boards = new Boards();
        due.is("read()", boards.read(FULL), 0);
        due.is("told(0)", boards.told(0), 8);
        due.is("told(1)", boards.told(1), 8);
        due.is("told(7)", boards.told(7), 63);
    }

    static void noBoxes() {
        is("@", 0);
    }

    static void moreBoxesThanGoals() {
        is("@$$.", 2);
    }

    static void asManyBoxesAsGoals() {
        is("@$.", 1);
        is("+$", 1);
    }

    static void boxesWithoutGoals() {
        is("@$", 1);
    }

    /** Bytes that fit are refused by none of the other rules here. */
    static void anotherByte() {
        for (int u = 0; u < 256; u++) {
            Boards boards = new Boards();
            boards.write("@$$");
            boards.unit(u);
            boards.write("_");
            boolean second = u == '@' || u == '+';
            boolean fits = "# _.$*|\n".indexOf(u) >= 0;
            int boxes = u == '$' || u == '*' ? 3 : 2;
            due.is("read() with byte " + u, boards.read(), fits && !second ? boxes : -4);
        }
    }

    static void aWrongByteAtTheFirstPlace() {
        is("x@", -1);
        is("r", -1);
    }

    static void aWrongByteAtTheLastPlace() {
        is("@|x", -3);
    }

    static void theFirstOfSeveralWrongBytes() {
        is("@a@b", -2);
        is("#########x", -9);
    }

    static void theEighthCellOfARow() {
        is("@       ", 0);
        is("@|        ", 0);
    }

    static void aNinthCellOfARow() {
        for (String sign : new String[] {" ", "_", "#", "$", ".", "*", "@", "+"}) {
            is("########" + sign, -9);
        }
        is("@|         ", -11);
        is("@|||||||         ", -17);
    }

    static void aNinthByteThatEndsTheRow() {
        drawn("@      #|#", 0, "@      #|#       |");
        is("@      #\n#", 0);
    }

    static void theEighthRow() {
        is("@|||||||_", 0);
        due.is("told(1)", Boards.of("@|||||||_").told(1), 8);
    }

    static void anEndBehindTheEighthRow() {
        is("@||||||||", 0);
        due.is("told(1)", Boards.of("@||||||||").told(1), 8);
    }

    static void aByteBehindEightWholeRows() {
        for (int u = 0; u < 256; u++) {
            Boards boards = new Boards();
            boards.write("@||||||||");
            boards.unit(u);
            due.is("read() with byte " + u, boards.read(), -10);
        }
    }

    static void aByteBehindTheFullBoard() {
        is(FULL, 0);
        is(FULL + "_", -73);
        is(FULL + "|", -73);
    }

    static void aTextOf160Bytes() {
        is((FULL + FULL + FULL).substring(0, 160), -73);
    }

    static void aSecondPerson() {
        is("@@", -2);
        is("@ @", -3);
        is("@+$", -2);
        is("+@$", -2);
        is("++$$", -2);
        is("@|@", -3);
    }

    static void the12thBox() {
        is(DOZEN_BOXES + "@", 12);
        is("******|******|@", 12);
    }

    static void the13thBox() {
        is(DOZEN_BOXES + "@$", -16);
        is("@" + DOZEN_BOXES + "$", -16);
    }

    static void the13thBoxOnAGoal() {
        is(DOZEN_BOXES + "@*", -16);
    }

    static void the12thGoal() {
        is(DOZEN_GOALS + DOZEN_BOXES + "@", 12);
        due.is("told(3)", Boards.of(DOZEN_GOALS + DOZEN_BOXES + "@").told(3), 12);
    }

    static void the13thGoal() {
        is(DOZEN_GOALS + ".", -15);
        is(DOZEN_GOALS + DOZEN_BOXES + "@.", -30);
    }

    static void the13thGoalUnderABox() {
        is(DOZEN_GOALS + "$$$*@", -18);
    }

    static void the13thGoalUnderThePerson() {
        is(DOZEN_GOALS + DOZEN_BOXES + "+", -29);
    }

    static void aWrongByteGoesBeforeWhatIsMissing() {
        is("..x", -3);
        is("x", -1);
        is("$$ x", -4);
    }

    static void noCell() {
        is("", -200);
        is("|", -200);
        is("\n", -200);
        is("||||||||", -200);
    }

    static void noPerson() {
        is("#", -200);
        is(" ", -200);
        is("$.", -200);
        is("*", -200);
    }

    static void fewerBoxesThanGoals() {
        is("@.", -200);
        is("+", -200);
        is("@$..", -200);
        is("@*.", -200);
        is("+*", -200);
        is(DOZEN_GOALS + "$$$$$$|$$$$$@|", -200);
    }

    static void theTextIsGoneBehindABoard() {
        Boards boards = Boards.of("@$.");
        due.is("read()", boards.read(), -200);
        due.is("read() of the next", boards.read("@"), 0);
        due.is("told(0)", boards.told(0), 1);
    }

    static void theTextIsGoneBehindAWrongByte() {
        Boards boards = new Boards();
        due.is("read()", boards.read("@x@@"), -2);
        due.is("read()", boards.read(), -200);
        due.is("read() of the next", boards.read("@"), 0);
    }

    static void theTextIsGoneBehindMinus200() {
        Boards boards = new Boards();
        due.is("read()", boards.read("  ."), -200);
        due.is("read() of the next", boards.read("@"), 0);
        due.is("told(0)", boards.told(0), 1);
    }

    static void aWrongByteChangesNothing() {
        nothingIsChangedBy("##|#x", -5);
        nothingIsChangedBy("*********", -9);
        nothingIsChangedBy("#||||||||#", -10);
        nothingIsChangedBy("###@@", -5);
        nothingIsChangedBy("#" + DOZEN_BOXES + "$", -16);
        nothingIsChangedBy("#" + DOZEN_GOALS + ".", -16);
    }

    static void minus200ChangesNothing() {
        nothingIsChangedBy("", -200);
        nothingIsChangedBy("|||", -200);
        nothingIsChangedBy("##|$ *", -200);
        nothingIsChangedBy("##|@$..#", -200);
    }

    private static void nothingIsChangedBy(String picture, int answer) {
        Boards boards = Boards.of("@$ .|   #");
        due.is("row()", boards.row("rd"), 2);
        due.is("search()", boards.search(50), 1);
        int states = boards.states();
        due.is("read() of " + picture, boards.read(picture), answer);
        due.is("picture", boards.picture(), "  $.| @ #|");
        due.is("letters", boards.letters(), "Rd");
        int[] told = {4, 2, 1, 1, 0, 2, 1, 5, 0};
        for (int what = 0; what < told.length; what++) {
            due.is("told(" + what + ")", boards.told(what), told[what]);
        }
        due.is("dead(1, 0)", boards.dead(1, 0), 0);
        due.is("dead(1, 1)", boards.dead(1, 1), 1);
        due.is("fast()", boards.fast(), 0);
        due.is("bound()", boards.bound(), 1);
        due.is("states()", boards.states(), states);
        due.is("push(0)", boards.push(0), 8);
        due.is("undo()", boards.undo(), 1);
        due.is("undo()", boards.undo(), 2);
        due.is("undo()", boards.undo(), 0);
        due.is("picture", boards.picture(), "@$ .|   #|");
    }

    static void aNewBoardTakesThePlaceOfTheOldOne() {
        Boards boards = Boards.of("########|#+*$$. #|#      #|########");
        due.is("read()", boards.read("@ $|. #"), 1);
        due.is("picture", boards.picture(), "@ $|. #|");
        int[] told = {3, 2, 1, 1, 0, 0, 0, 0, 0};
        for (int what = 0; what < told.length; what++) {
            due.is("told(" + what + ")", boards.told(what), told[what]);
        }
        due.is("read() of a larger one", boards.read("    |    |    |   @"), 0);
        due.is("reach()", boards.reach(), 16);
        due.is("dead(0, 1)", boards.dead(0, 1), 1);
    }

    static void aNewBoardHasNoMoves() {
        Boards boards = Boards.of("@$ .|    ");
        due.is("row()", boards.row("rd"), 2);
        due.is("read()", boards.read("@$ .|    "), 1);
        due.is("told(5)", boards.told(5), 0);
        due.is("told(6)", boards.told(6), 0);
        due.is("letter(0)", boards.letter(0), -1);
        due.is("undo()", boards.undo(), 0);
        due.is("picture", boards.picture(), "@$ .|    |");
    }
}
