/** Promise 18: push. */
public final class Promise18Test {
    private static final Due due = new Due("promise 18, push");
    private static final String LANE = "@$   .";

    public static void main(String[] args) {
        due.runCases(Promise18Test.class);
    }

    private static void none(Boards boards) {
        for (int k : new int[] {0, 1, -1, Integer.MIN_VALUE, Integer.MAX_VALUE}) {
            due.is("push(" + k + ")", boards.push(k), -1);
        }
    }

    static void beforeAnySearch() {
        none(new Boards());
        none(Boards.of(LANE));
    }

    static void behindASearchWithoutABoard() {
        Boards boards = new Boards();
        due.is("search(5)", boards.search(5), -3);
        none(boards);
    }

    static void noPushBelow() {
        Boards boards = Boards.of(LANE);
        due.is("search(9)", boards.search(9), 4);
        for (int k : Boards.TOO_SMALL) {
            due.is("push(" + k + ")", boards.push(k), -1);
        }
    }

    static void noPushAbove() {
        Boards boards = Boards.of(LANE);
        due.is("search(9)", boards.search(9), 4);
        for (int k : new int[] {4, 5, 128, 10000, Integer.MAX_VALUE}) {
            due.is("push(" + k + ")", boards.push(k), -1);
        }
    }

    static void theFirstAndTheLast() {
        Boards boards = Boards.of(LANE);
        due.is("search(9)", boards.search(9), 4);
        due.is("push(0)", boards.push(0), 4);
        due.is("push(1)", boards.push(1), 8);
        due.is("push(2)", boards.push(2), 12);
        due.is("push(3)", boards.push(3), 16);
    }

    static void eachWay() {
        String[] pictures = {"@$.", "@|$|.", ".$@", ".|$|@"};
        for (int way = 0; way < 4; way++) {
            Boards boards = Boards.of(pictures[way]);
            due.is("search(9)", boards.search(9), 1);
            due.is("push(0)", boards.push(0), 4 + way);
        }
    }

    static void lowAndHighCells() {
        Boards boards = Boards.of("@       |$       |.       ");
        due.is("search(9)", boards.search(9), 1);
        due.is("push(0)", boards.push(0), 4 * 8 + 1);
        boards = Boards.of("       .|" + "        |".repeat(5) + "       $|       @");
        due.is("search(9)", boards.search(9), 6);
        due.is("push(0)", boards.push(0), 4 * 55 + 3);
        due.is("push(5)", boards.push(5), 4 * 15 + 3);
    }

    /** The cell is W y + x, whatever the width. */
    static void cellsOfANarrowBoard() {
        Boards boards = Boards.of("###|#@#|#$#|#.#|###");
        due.is("search(9)", boards.search(9), 1);
        due.is("push(0)", boards.push(0), 4 * 7 + 1);
    }

    static void noneWhenDoneAtOnce() {
        Boards boards = Boards.of("@*");
        due.is("search(9)", boards.search(9), 0);
        none(boards);
    }

    static void noneBehindMinus1() {
        Boards boards = Boards.of(".@$  ");
        due.is("search(9)", boards.search(9), -1);
        none(boards);
    }

    static void noneBehindMinus2() {
        Boards boards = Boards.of(LANE);
        due.is("search(3)", boards.search(3), -2);
        none(boards);
    }

    static void noneBehindMinus1OrMinus2ThoughOneWasFoundBefore() {
        Boards boards = Boards.of(LANE);
        due.is("search(9)", boards.search(9), 4);
        due.is("search(4)", boards.search(4), -2);
        none(boards);
        due.is("search(9)", boards.search(9), 4);
        due.is("push(0)", boards.push(0), 4);
        due.is("read()", boards.read("@ # .$"), 1);
        due.is("search(9)", boards.search(9), -1);
        none(boards);
    }

    static void minus3IsNotTheLatest() {
        Boards boards = Boards.of(LANE);
        due.is("search(9)", boards.search(9), 4);
        due.is("search(0)", boards.search(0), -3);
        due.is("search(10001)", boards.search(10001), -3);
        due.is("push(3)", boards.push(3), 16);
        due.is("push(4)", boards.push(4), -1);
    }

    static void theLatestOfTwo() {
        Boards boards = Boards.of(LANE);
        due.is("search(9)", boards.search(9), 4);
        due.is("row()", boards.row("2r"), 2);
        due.is("search(9)", boards.search(9), 2);
        due.is("push(0)", boards.push(0), 12);
        due.is("push(1)", boards.push(1), 16);
        due.is("push(2)", boards.push(2), -1);
    }

    static void itStaysBehindMovesAndUndo() {
        Boards boards = Boards.of(LANE);
        due.is("search(9)", boards.search(9), 4);
        due.is("move(0)", boards.move(0), 2);
        due.is("push(0)", boards.push(0), 4);
        due.is("undo()", boards.undo(), 2);
        due.is("push(3)", boards.push(3), 16);
    }

    /** The cells are those of the board that was searched. */
    static void itStaysBehindANewBoard() {
        Boards boards = Boards.of("#####|#@$.#|#####");
        due.is("search(9)", boards.search(9), 1);
        due.is("read()", boards.read("@"), 0);
        due.is("push(0)", boards.push(0), 28);
        due.is("search(9)", boards.search(9), 0);
        due.is("push(0)", boards.push(0), -1);
    }

    /** Each push is done with the person come behind the box, and the last one makes it done. */
    static void doneByMovesTheyEndTheBoard() {
        Boards boards = Boards.of("####|# .#|#  ###|#*@  #|#  $ #|#  ###|####");
        due.is("search()", boards.search(10000), 8);
        for (int k = 0; k < 8; k++) {
            int push = boards.push(k);
            int x = push / 4 % 6 + new int[] {-1, 0, 1, 0}[push % 4];
            int y = push / 4 / 6 + new int[] {0, -1, 0, 1}[push % 4];
            walk(boards, x, y);
            due.is("push " + k, boards.move(push % 4), 2);
            due.is("the person is where the box was", boards.told(7), push / 4);
        }
        due.is("push(8)", boards.push(8), -1);
        due.is("told(6)", boards.told(6), 8);
        due.is("told(8)", boards.told(8), 1);
    }

    /** Goes by moves each of which makes the way that is left shorter. */
    private static void walk(Boards boards, int x, int y) {
        for (long left = boards.way(x, y); left > 0; left--) {
            for (int way = 0; way < 4; way++) {
                long went = boards.move(way);
                if (went == 1 && boards.way(x, y) == left - 1) {
                    break;
                }
                if (went != 0) {
                    boards.undo();
                }
            }
        }
        due.is("come behind the box", boards.way(x, y), 0);
    }
}
