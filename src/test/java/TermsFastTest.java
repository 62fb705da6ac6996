/** Terms: boxes stand fast, stuck. */
public final class TermsFastTest {
    private static final String STAIR =
        " #      | $$     |  $$    |   $$   |    $$  |     $$.|      $$|";
    private static final Due due = new Due("terms, boxes stand fast");

    public static void main(String[] args) {
        due.runCases(TermsFastTest.class);
    }

    private static void is(String picture, int fast, boolean stuck) {
        Boards boards = Boards.of(picture);
        due.is(picture + " fast()", boards.fast(), fast);
        due.is(picture + " stuck()", boards.stuck(), stuck);
    }

    static void canBePushedLeftAndRight() {
        is("@$.", 0, false);
        is("#######|#     #|# $.  #|#  @  #|#######", 0, false);
    }

    static void canBePushedUpAndDown() {
        is("@|$|.", 0, false);
        is("#####|#   #|# . #|# $ #|# @ #|#####", 0, false);
    }

    static void wallsOnBothLines() {
        is("#######|#$    #|#  .  #|#  @  #|#######", 1, true);
        is("  #  | #$  |     |  .  | @   ", 1, true);
    }

    /** One of both cells beside it is enough. */
    static void aWallOnOneSideOfALine() {
        is("@#$.", 1, true);
        is("@ .$#", 1, true);
        is("@|#|$|.", 1, true);
        is("@|_|.|$|#", 1, true);
    }

    static void outsideOnOneSideOfALine() {
        is("$.@", 1, true);
        is("@.$", 1, true);
        is("$|.|@", 1, true);
        is("@|.|$", 1, true);
    }

    static void bothCellsBesideItAreDead() {
        is("#######|#  $  #|#  .  #|#  @  #|#######", 1, true);
        is("@   |  $ |    ", 1, true);
    }

    static void oneCellBesideItIsDead() {
        is("@$.", 0, false);
        is(".$@", 0, false);
        is("@|$|.", 0, false);
        is(".|$|@", 0, false);
    }

    static void onAGoalBetweenDeadPlaces() {
        is("#####|#   #|# * #|# @ #|#####", 1, false);
    }

    static void aBoxBesideItThatStandsFast() {
        is("@$$..", 2, true);
        is("@|$|$|.|.", 2, true);
    }

    static void fourTogether() {
        is("        |        |   $$   |   $$   |  ....  |        |   @", 4, true);
        is("        |        |   **   |   **   |        |   @", 4, false);
    }

    static void aBoxBesideItThatCanBePushed() {
        is("        |   $$   |  .     |  .     |   @", 0, false);
    }

    /** The right one goes first, up and down; then nothing holds the left one on its row. */
    static void freeOnceItsNeighbourIsTakenAway() {
        is("  #     |@.$$    |  #     |   .    ", 0, false);
    }

    static void heldBecauseItsNeighbourIs() {
        is("  ##    |@.$$#   |  ##    |   .    ", 2, true);
    }

    /** A stair of twelve: each is free only once the one below it is, and only the last one is at first. */
    static void aChainOfTwelve() {
        is(STAIR + "@       ", 0, false);
    }

    static void aChainOfTwelveWithoutAFreeEnd() {
        is(STAIR + "@      #", 12, true);
    }

    static void aFreeBoxDoesNotFreeOneInACorner() {
        is("       |       |$  $.  |       | @     ", 1, true);
    }

    static void stuckOnlyOffTheGoals() {
        is("#####|#*  #|#  @#|#####", 1, false);
        is("#####|#* $#|#  @#|#####", 2, true);
    }

    static void noBoxes() {
        is("@", 0, false);
    }

    /** The person is no hindrance, and need not be able to come there. */
    static void thePersonDoesNotMatter() {
        is(" @$.", 0, false);
        is("@#  |##$ |##. |##  ", 0, false);
    }
}
