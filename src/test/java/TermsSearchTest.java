/** Terms: a state, the search. */
public final class TermsSearchTest {
    private static final Due due = new Due("terms, the search");

    public static void main(String[] args) {
        due.runCases(TermsSearchTest.class);
    }

    /** What is found, how many states were taken in, and the pushes one by one. */
    private static void is(String picture, int answer, int states, int... pushes) {
        Boards boards = Boards.of(picture);
        due.is(picture + " search()", boards.search(10000), answer);
        due.is("states()", boards.states(), states);
        for (int k = 0; k < pushes.length; k++) {
            due.is("push(" + k + ")", boards.push(k), pushes[k]);
        }
        due.is("push(" + pushes.length + ")", boards.push(pushes.length), -1);
    }

    /** Both boxes need one push: that of the lower cell is found, and nothing behind it is taken in. */
    static void boxesByCells() {
        is("#######|#     #|# $.$ #|#     #|#  @  #|#######", 1, 2, 4 * 16);
    }

    /** The upper box is pushed to the right first, and then down to the goal. */
    static void boxesByCellsOneAboveTheOther() {
        is("#######|#     #|#  $  #|#@ .  #|#  $  #|#     #|#######", 1, 3, 4 * 17 + 1);
    }

    /** Right and down, or down and right: what was come to first is looked at first. */
    static void waysInTheirOrder() {
        is("######|#    #|# $  #|#  . #|#@   #|######", 2, 4, 4 * 14, 4 * 15 + 1);
    }

    /** The goal is the last of the nine live places that is come to. */
    static void statesByRounds() {
        is("#######|#@    #|# $   #|#     #|#   . #|#     #|#######", 4, 9, 4 * 16, 4 * 17, 4 * 18 + 1, 4 * 25 + 1);
    }

    /** The box must come out of the door and back: then the person is on its other side. */
    static void anotherReachIsAnotherState() {
        is("########|####   #|# .@$  #|####   #|########", 4, 5, 4 * 20, 4 * 21 + 2, 4 * 20 + 2, 4 * 19 + 2);
    }

    /** Pushed there and back the person stands elsewhere, but can go where it could. */
    static void theSameReachIsTheSameState() {
        is("########|#      #|# . $  #|#@     #|########", 2, 4, 4 * 20 + 2, 4 * 19 + 2);
    }

    static void thePersonCantComeBehindTheBox() {
        is("@.$ ", -1, 1);
        is("@#.$ ", -1, 1);
    }

    static void aWallOrABoxBehindTheBox() {
        is("@$#|.", -1, 1);
        is("@$$.", -1, 1);
        is("@$|.", -1, 1);
    }

    /** Nobody can stand outside, nor push round the edge from the row above or below. */
    static void theOutsideBehindTheBox() {
        is("$ .@", -1, 1);
        is("       @|$ .     ", -1, 1);
        is("     . $|@       ", -1, 1);
        is("@|_|.|_|$", -1, 1);
    }

    static void aPushToADeadPlaceIsPassedOver() {
        is(".@$ ", -1, 1);
        is(".@$  ", -1, 2);
    }

    static void aStuckStateIsPassedOver() {
        is("@$ $..", -1, 1);
    }

    /** The words make no exception for it: a state that is stuck is passed over. */
    static void aStuckStateIsPassedOverThoughDone() {
        is("@$.$ ", -1, 1);
    }

    static void aBoxThatStandsFastOnAGoalIsNotStuck() {
        is("#####|#@$.#|# $.#|#####", 2, 4, 28, 48);
    }

    static void aBoxMoreThanGoals() {
        is("@$. $ ", 1, 2, 4);
    }

    /** Moves that end a board of which only one box is needed, with so many pushes. */
    private static void canBeDone(String picture, String moves, int pushes) {
        Boards boards = Boards.of(picture);
        due.is(picture + " stuck()", boards.stuck(), false);
        due.is(moves, boards.row(moves), moves.length());
        due.is("pushes among them", boards.told(6), pushes);
        due.is("told(8)", boards.told(8), 1);
    }

    /** The words make no exception for a box that no goal needs: here the only way parks it at (3, 1). */
    static void aSpareBoxOnADeadPlaceIsPassedOverToo() {
        canBeDone(".$ #|#@$ |#  #", "rul", 2);
        is(".$ #|#@$ |#  #", -1, 1);
    }

    /** Here there is another way, which takes one push more. */
    static void aSpareBoxOnADeadPlaceWouldSaveAPush() {
        canBeDone("   #.|  $  | $ # |#@   ", "ruLuRRlddrruU", 4);
        Boards boards = Boards.of("   #.|  $  | $ # |#@   ");
        due.is("search()", boards.search(10000), 5);
        due.is("states()", boards.states(), 12);
    }

    /** A start that is stuck is not passed over, but all that comes behind it is. */
    static void stuckFromTheStart() {
        is("$     |      | @$.  |      |      ", -1, 1);
    }

    static void stuckFromTheStartButDone() {
        is("@|$$$", 0, 1);
        is("@*$", 0, 1);
    }

    static void doneFromTheStart() {
        is("@*", 0, 1);
        is("@", 0, 1);
    }
}
