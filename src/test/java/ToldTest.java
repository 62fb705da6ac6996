/** Promises 7 and 8: what is told of the board, and its picture. */
public final class ToldTest {
    private static final Due due = new Due("told, picture");

    public static void main(String[] args) {
        told();
        done();
        pictures();
        due.end();
    }

    private static void told() {
        PushBoards boards = Due.board("#######|#+$ $ #|# * . #|#######");
        tellAll(boards, new int[] {7, 4, 3, 3, 1, 0, 0, 8, 0, -1});
        due.is("row()", Due.row(boards, "rr"), -2);
        tellAll(boards, new int[] {7, 4, 3, 3, 1, 1, 1, 9, 0, -1});
        due.is("row()", Due.row(boards, "ldr"), 3);
        tellAll(boards, new int[] {7, 4, 3, 3, 0, 4, 2, 16, 0, -1});
        due.is("move(0)", boards.move(0), 2);
        tellAll(boards, new int[] {7, 4, 3, 3, 1, 5, 3, 17, 0, -1});
        due.is("undo()", boards.undo(), 2);
        due.is("undo()", boards.undo(), 2);
        tellAll(boards, new int[] {7, 4, 3, 3, 1, 3, 1, 15, 0, -1});
        due.is("told(-1)", boards.told(-1), -1);
        due.is("told(min)", boards.told(Integer.MIN_VALUE), -1);
        due.is("told(max)", boards.told(Integer.MAX_VALUE), -1);
    }

    private static void tellAll(PushBoards boards, int[] want) {
        for (int what = 0; what < want.length; what++) {
            due.is("told(" + what + ")", boards.told(what), want[what]);
        }
    }

    private static void done() {
        PushBoards boards = Due.board("@$. .$ ");
        due.is("told(8)", boards.told(8), 0);
        boards.move(0);
        due.is("told(4)", boards.told(4), 1);
        due.is("told(8), one goal is left", boards.told(8), 0);
        boards = Due.board("@$.$");
        due.is("told(8)", boards.told(8), 0);
        boards.move(0);
        due.is("told(8), a box more than goals", boards.told(8), 1);
        boards.undo();
        due.is("told(8)", boards.told(8), 0);
        due.is("told(8), no goals", Due.board("@").told(8), 1);
        due.is("told(8), no goals, a box", Due.board("@$").told(8), 1);
        due.is("told(8), on a goal", Due.board("@*").told(8), 1);
        due.is("told(8), the person on the goal", Due.board("+$").told(8), 0);
    }

    private static void pictures() {
        PushBoards boards = Due.board("#_.$|*+ $");
        due.is("picture", Due.picture(boards), "# .$|*+ $|");
        due.is("picture(4)", boards.picture(4), 10);
        due.is("picture(9)", boards.picture(9), 10);
        due.is("picture(10)", boards.picture(10), -1);
        due.is("picture(-1)", boards.picture(-1), -1);
        due.is("picture(max)", boards.picture(Integer.MAX_VALUE), -1);
        due.is("picture(min)", boards.picture(Integer.MIN_VALUE), -1);
        boards.move(0);
        due.is("picture", Due.picture(boards), "# .$|*.@$|");
        boards.move(3);
        due.is("picture", Due.picture(boards), "# +$|*. $|");
        boards.undo();
        boards.undo();
        due.is("picture", Due.picture(boards), "# .$|*+ $|");
        boards = Due.board("@* .$");
        boards.move(0);
        due.is("picture", Due.picture(boards), " +$.$|");
        boards.move(0);
        due.is("picture", Due.picture(boards), " .@*$|");
        boards = Due.board("@" + Due.times("       |", 7) + "$$....$$");
        due.is("the last byte of 8 by 8", boards.picture(71), 10);
        due.is("none behind it", boards.picture(72), -1);
    }
}
