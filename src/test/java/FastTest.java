/** Promises 13 and 14: boxes that stand fast, and being stuck. */
public final class FastTest {
    private static final Due due = new Due("fast, stuck");

    public static void main(String[] args) {
        standing("free along its row", "#######|#     #|# $.  #|#  @  #|#######", 0, false);
        standing("free along its column", "#####|#   #|# . #|# $ #|# @ #|#####", 0, false);
        standing("in a corner", "#######|#$    #|#  .  #|#  @  #|#######", 1, true);
        standing("in a corner on a goal", "#####|#*  #|#  @#|#####", 1, false);
        standing("both cells beside it are dead", "#######|#  $  #|#  .  #|#  @  #|#######", 1, true);
        standing("at the edge of the board, as at a wall", "$  |   |.@ ", 1, true);
        standing("two in a lane hold each other", "@$$..", 2, true);
        standing("four together", "        |        |   $$   |   $$   |  ....  |        |   @", 4, true);
        standing("four together on goals", "        |        |   **   |   **   |        |   @", 4, false);
        standing("two side by side", "        |   $$   |  .     |  .     |   @", 0, false);
        standing("free once its neighbour is", "  #     |@.$$    |  #     |   .    ", 0, false);
        standing("held with its neighbour", "  ##    |@.$$#   |  ##    |   .    ", 2, true);
        standing("without goals all places are dead", "@   |  $ |    ", 1, true);
        standing("one of two", "       |       |$  $.  |       | @     ", 1, true);
        standing("no boxes", "@", 0, false);
        behindMoves();
        due.end();
    }

    private static void standing(String what, String picture, int count, boolean stuck) {
        PushBoards boards = Due.board(picture);
        due.is(what + ": fast()", boards.fast(), count);
        due.is(what + ": stuck()", boards.stuck(), stuck);
    }

    private static void behindMoves() {
        PushBoards boards = Due.board("     |     |@$ . |     |     ");
        due.is("stuck()", boards.stuck(), false);
        due.is("row()", Due.row(boards, "3r"), 3);
        due.is("fast() of a box at the edge", boards.fast(), 1);
        due.is("stuck()", boards.stuck(), true);
        boards.undo();
        due.is("fast() on the goal", boards.fast(), 0);
        due.is("stuck()", boards.stuck(), false);
    }
}
