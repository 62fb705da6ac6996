/** Promises 15 and 16: the bound, and the fewest steps of a box. */
public final class BoundTest {
    private static final Due due = new Due("bound, pushes");

    public static void main(String[] args) {
        bounds();
        steps();
        noSuchCells();
        due.end();
    }

    private static void bounds() {
        bound("one push", "@$.", 1);
        bound("no goals", "@$$", 0);
        bound("no goals, no boxes", "@", 0);
        bound("all on goals", "@**", 0);
        bound("in a corner", "$   |    |  @.|    ", -1);
        bound("the nearer of two boxes", "@$ $. ", 1);
        bound("a box in a corner that need not come", "$     |@ $ . |      ", 2);
        bound("boxes do not hinder one another", "@$$$.  .", 6);
        bound("one box can reach only the goal that the other is nearer to",
            "@    |     |$    |     |.$ . |     |     ", 4);
        bound("two goals, one box in reach of both, one of none", "$     |      | @$ ..|      ", -1);
        bound("a box round a wall", "       |@$  #  |    #. |    #  |       |       ", 9);
        bound("twelve", "        | $$$$$$ | $$$$$$ |        | ...... | ...... |        |@", 36);
        bound("eleven in place", "        | ****** | *****$ | @   .  |        ", 2);
        PushBoards boards = Due.board("@$  .");
        boards.move(0);
        due.is("bound() behind a push", boards.bound(), 2);
        boards.undo();
        due.is("bound() behind an undo", boards.bound(), 3);
        Due.read(boards, "@$.");
        due.is("bound() of the next board", boards.bound(), 1);
    }

    private static void bound(String what, String picture, int want) {
        due.is(what, Due.board(picture).bound(), want);
    }

    private static void steps() {
        PushBoards boards = Due.board("@$$.#");
        due.is("through a box", Due.pushes(boards, 1, 0, 3, 0), 2);
        due.is("nobody can stand outside", Due.pushes(boards, 0, 0, 1, 0), -1);
        due.is("nobody can stand in a wall", Due.pushes(boards, 3, 0, 2, 0), -1);
        due.is("back", Due.pushes(boards, 2, 0, 0, 0), 2);
        due.is("no step", Due.pushes(boards, 0, 0, 0, 0), 0);
        due.is("to a wall", Due.pushes(boards, 1, 0, 4, 0), -1);
        due.is("from a wall", Due.pushes(boards, 4, 0, 3, 0), -1);
        due.is("a wall itself", Due.pushes(boards, 4, 0, 4, 0), -1);
        boards = Due.board("@     |      |      |      ");
        due.is("aslant", Due.pushes(boards, 1, 1, 4, 2), 4);
        due.is("down the edge", Due.pushes(boards, 0, 1, 0, 3), 2);
        due.is("off the edge", Due.pushes(boards, 0, 1, 1, 1), -1);
        due.is("to the edge", Due.pushes(boards, 1, 1, 0, 1), 1);
        due.is("into the corner", Due.pushes(boards, 1, 1, 0, 0), 2);
        due.is("out of the corner", Due.pushes(boards, 0, 0, 0, 1), -1);
        due.is("not round the edge of the board",
            Due.pushes(Due.board("@       |        |        "), 6, 1, 0, 2), 7);
    }

    private static void noSuchCells() {
        PushBoards boards = Due.board("@  |   ");
        int[][] none = {{-1, 0, 0, 0}, {0, -1, 0, 0}, {0, 0, -1, 0}, {0, 0, 0, -1}, {3, 0, 0, 0}, {0, 2, 0, 0},
            {0, 0, 3, 0}, {0, 0, 0, 2}, {0, 0, Integer.MAX_VALUE, Integer.MIN_VALUE}};
        for (int[] cells : none) {
            due.is("pushes" + java.util.Arrays.toString(cells),
                Due.pushes(boards, cells[0], cells[1], cells[2], cells[3]), Due.NO_CELL);
        }
        due.is("pushes(2, 1, 2, 1)", Due.pushes(boards, 2, 1, 2, 1), 0);
    }
}
