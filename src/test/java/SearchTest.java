/** Promises 17, 18 and 19: the search, its pushes, and how many states it took in. */
public final class SearchTest {
    private static final Due due = new Due("search, push, states");
    private static final String MICROBAN_1 = "####|# .#|#  ###|#*@  #|#  $ #|#  ###|####";
    private static final String MICROBAN_2 = "######|#    #|# #@ #|# $* #|# .* #|#    #|######";

    public static void main(String[] args) {
        lanes();
        levels();
        limits();
        nothingDone();
        passedOver();
        resultStays();
        due.end();
    }

    private static void lanes() {
        PushBoards boards = Due.board("#####|#@$.#|#####");
        found(boards, 10, 1, 2);
        due.is("push(0)", boards.push(0), 4 * 7);
        due.is("push(1)", boards.push(1), -1);
        due.is("push(-1)", boards.push(-1), -1);
        due.is("push(max)", boards.push(Integer.MAX_VALUE), -1);
        due.is("push(min)", boards.push(Integer.MIN_VALUE), -1);
        boards = Due.board("@$   .");
        found(boards, 10, 4, 5);
        for (int k = 0; k < 4; k++) {
            due.is("push(" + k + ")", boards.push(k), 4 * (1 + k));
        }
        boards = Due.board(" ||$|@");
        found(boards, 10, 0, 1);
        due.is("push(0) of none", boards.push(0), -1);
        boards = Due.board(".| |$|@");
        found(boards, 10, 2, 3);
        due.is("push(0), upwards", boards.push(0), 4 * 2 + 3);
        due.is("push(1), upwards", boards.push(1), 4 + 3);
        boards = Due.board("@||$||.");
        found(boards, 10, 2, 3);
        due.is("push(0), downwards", boards.push(0), 4 * 2 + 1);
        boards = Due.board("@||.||$");
        found(boards, 10, -1, 1);
    }

    private static void levels() {
        replayed(MICROBAN_2, 3);
        replayed(MICROBAN_1, 8);
    }

    /** The pushes found are done by walking, and end in a board that is done. */
    private static void replayed(String picture, int fewest) {
        PushBoards boards = Due.board(picture);
        due.is("search()", boards.search(10000), fewest);
        due.is("the bound is not more", boards.bound() <= fewest, true);
        for (int k = 0; k < fewest; k++) {
            int cell = boards.push(k) / 4;
            int way = boards.push(k) % 4;
            int x = cell % boards.told(0) + new int[] {-1, 0, 1, 0}[way];
            int y = cell / boards.told(0) + new int[] {0, -1, 0, 1}[way];
            walk(boards, x, y);
            due.is("push " + k, boards.move(way), 2);
            due.is("the person is where the box was", boards.told(7), cell);
        }
        due.is("none behind the last one", boards.push(fewest), -1);
        due.is("told(6)", boards.told(6), fewest);
        due.is("told(8)", boards.told(8), 1);
        due.is("search() from the end", boards.search(5), 0);
        due.is("states()", boards.states(), 1);
    }

    /** Goes by moves each of which makes the way that is left shorter, looking from the other end. */
    private static void walk(PushBoards boards, int x, int y) {
        for (int left = boards.way(x, y); left > 0; left--) {
            for (int way = 0; way < 4; way++) {
                int went = boards.move(way);
                if (went == 1 && boards.way(x, y) == left - 1) {
                    break;
                }
                if (went != 0) {
                    boards.undo();
                }
            }
        }
        due.is("come behind the box", boards.way(x, y), 0);
    }

    private static void limits() {
        PushBoards boards = Due.board("@$   .");
        for (int most = 1; most < 5; most++) {
            found(boards, most, -2, most);
            due.is("push(0) of none", boards.push(0), -1);
        }
        found(boards, 5, 4, 5);
        found(boards, 10000, 4, 5);
        found(Due.board("@*"), 1, 0, 1);
        PushBoards none = Due.board("@ # .$");
        found(none, 1, -1, 1);
        due.is("push(0) of none", none.push(0), -1);
        PushBoards wide = Due.board("        | $ $ $  |        |  $ $ $ |        | ...... |        |@       ");
        found(wide, 10000, -2, 10000);
        found(wide, 130, -2, 130);
        found(wide, 1, -2, 1);
    }

    private static void nothingDone() {
        PushBoards boards = Due.board("@$ .");
        due.is("search()", boards.search(9), 2);
        int[] most = {0, -1, 10001, Integer.MAX_VALUE, Integer.MIN_VALUE};
        for (int m : most) {
            due.is("search(" + m + ")", boards.search(m), -3);
            due.is("push(1) stays", boards.push(1), 8);
            due.is("states() stays", boards.states(), 3);
        }
        due.is("the board stays", Due.picture(boards), "@$ .|");
        due.is("no move is done", boards.told(5), 0);
    }

    private static void passedOver() {
        // The only push there is would bring the box to a dead cell.
        found(Due.board(".@$ "), 100, -1, 1);
        found(Due.board(".@$  "), 100, -1, 2);
        // The last push would leave two boxes that hold each other, one not on the goal.
        found(Due.board("@$.$ "), 100, -1, 1);
        // A box that stands fast from the start is on no goal: nothing can be come to.
        found(Due.board("$     |      | @$.  |      |      "), 100, -1, 1);
        // Done from the start comes first.
        found(Due.board("@|$$$"), 100, 0, 1);
        // Pushed there and back: the states come to before are taken in once.
        // Live are the nine cells that a box can come to and leave; the goal is the last of them come to.
        found(Due.board("#######|#@    #|# $   #|#     #|#   . #|#     #|#######"), 9, 4, 9);
    }

    private static void resultStays() {
        PushBoards boards = Due.board("#####|#@$.#|#####");
        found(boards, 10, 1, 2);
        due.is("read()", Due.read(boards, "@"), 0);
        due.is("push(0) is as of its board", boards.push(0), 28);
        due.is("states()", boards.states(), 2);
        found(boards, 10, 0, 1);
        due.is("push(0)", boards.push(0), -1);
    }

    /** States 0 stands for: not looked at. */
    private static void found(PushBoards boards, int most, int answer, int states) {
        String before = Due.picture(boards);
        due.is(before + " search(" + most + ")", boards.search(most), answer);
        due.is(before + " states()", states == 0 ? 0 : boards.states(), states);
        due.is("the board stays", Due.picture(boards), before);
    }
}
