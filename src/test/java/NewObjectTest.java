/** Promise 1, and what every other call answers without a board. */
public final class NewObjectTest {
    public static void main(String[] args) {
        Due due = new Due("new object");
        PushBoards boards = new PushBoards();
        int[] told = {0, 0, 0, 0, 0, 0, 0, -1, 0, -1};
        for (int what = 0; what < told.length; what++) {
            due.is("told(" + what + ")", boards.told(what), told[what]);
        }
        due.is("told(-1)", boards.told(-1), -1);
        due.is("picture(0)", boards.picture(0), -1);
        due.is("letter(0)", boards.letter(0), -1);
        due.is("undo()", boards.undo(), 0);
        due.is("reach()", boards.reach(), 0);
        due.is("fast()", boards.fast(), 0);
        due.is("stuck()", boards.stuck(), false);
        due.is("bound()", boards.bound(), 0);
        due.is("search(1)", boards.search(1), -3);
        due.is("push(0)", boards.push(0), -1);
        due.is("states()", boards.states(), 0);
        due.is("way(0, 0)", Due.way(boards, 0, 0), Due.NO_CELL);
        due.is("dead(0, 0)", Due.dead(boards, 0, 0), Due.NO_CELL);
        due.is("pushes(0, 0, 0, 0)", Due.pushes(boards, 0, 0, 0, 0), Due.NO_CELL);
        due.is("move(0)", Due.move(boards, 0), Due.NO_BOARD);
        due.is("move(9), no board is looked at first", Due.move(boards, 9), Due.NO_BOARD);
        due.is("row() of nothing", boards.row(), 0);
        due.is("row() of 3r", Due.row(boards, "3r"), -2);
        due.is("read() of nothing", boards.read(), -200);
        due.end();
    }
}
