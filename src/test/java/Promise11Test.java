/** Promise 11: way. */
public final class Promise11Test {
    private static final Due due = new Due("promise 11, way");

    public static void main(String[] args) {
        due.runCases(Promise11Test.class);
    }

    static void withoutABoard() {
        Boards boards = new Boards();
        int[][] cells = {{0, 0}, {-1, 0}, {0, -1}, {7, 7}, {Integer.MIN_VALUE, Integer.MAX_VALUE}};
        for (int[] cell : cells) {
            due.is("way(" + cell[0] + ", " + cell[1] + ")", boards.way(cell[0], cell[1]), Boards.NO_INDEX);
        }
    }

    static void noSuchColumn() {
        Boards boards = Boards.of("@  |   ");
        for (int x : new int[] {-1, 3, 4, 7, 8, Integer.MIN_VALUE, Integer.MAX_VALUE}) {
            due.is("way(" + x + ", 0)", boards.way(x, 0), Boards.NO_INDEX);
            due.is("way(" + x + ", 1)", boards.way(x, 1), Boards.NO_INDEX);
        }
    }

    static void noSuchRow() {
        Boards boards = Boards.of("@  |   ");
        for (int y : new int[] {-1, 2, 3, 7, 8, Integer.MIN_VALUE, Integer.MAX_VALUE}) {
            due.is("way(0, " + y + ")", boards.way(0, y), Boards.NO_INDEX);
            due.is("way(2, " + y + ")", boards.way(2, y), Boards.NO_INDEX);
        }
    }

    static void noSuchCellOfTheLargestBoard() {
        Boards boards = Boards.of("@       ||||||||");
        due.is("way(8, 0)", boards.way(8, 0), Boards.NO_INDEX);
        due.is("way(0, 8)", boards.way(0, 8), Boards.NO_INDEX);
        due.is("way(-1, 1)", boards.way(-1, 1), Boards.NO_INDEX);
        due.is("way(7, 7)", boards.way(7, 7), 14);
    }

    static void theLastColumnAndRow() {
        Boards boards = Boards.of("@  |   ");
        due.is("way(2, 1)", boards.way(2, 1), 3);
        due.is("way(2, 0)", boards.way(2, 0), 2);
        due.is("way(0, 1)", boards.way(0, 1), 1);
    }

    static void thePersonsCell() {
        Boards boards = Boards.of("   | @ |   ");
        due.is("way(1, 1)", boards.way(1, 1), 0);
        due.is("way(0, 0) of the smallest board", Boards.of("@").way(0, 0), 0);
    }

    static void theCellsBeside() {
        Boards boards = Boards.of("   | @ |   ");
        due.is("right", boards.way(2, 1), 1);
        due.is("down", boards.way(1, 2), 1);
        due.is("left", boards.way(0, 1), 1);
        due.is("up", boards.way(1, 0), 1);
        due.is("aslant", boards.way(2, 2), 2);
    }

    static void aWall() {
        due.is("way(1, 0)", Boards.of("@#").way(1, 0), -1);
    }

    static void aBox() {
        due.is("way(1, 0), though it could be pushed", Boards.of("@$ ").way(1, 0), -1);
        due.is("way(1, 0) on a goal", Boards.of("@* ").way(1, 0), -1);
    }

    static void aCellCutOff() {
        Boards boards = Boards.of("@ # |  # |  $.");
        int[][] fewest = {{0, 1, -1, -1}, {1, 2, -1, -1}, {2, 3, -1, -1}};
        for (int y = 0; y < 3; y++) {
            for (int x = 0; x < 4; x++) {
                due.is("way(" + x + ", " + y + ")", boards.way(x, y), fewest[y][x]);
            }
        }
    }

    static void roundABox() {
        due.is("way(1, 0)", Boards.of("   | $ | @ ").way(1, 0), 4);
    }

    static void theShorterOfTwo() {
        due.is("way(3, 1)", Boards.of("      | ## # | @#   |   ###").way(3, 1), 7);
        due.is("way(3, 2)", Boards.of("      | ## # | @#   |   ###").way(3, 2), 8);
        due.is("way(4, 2)", Boards.of("     |@### |     ").way(4, 2), 5);
    }

    static void theLongestOfAMaze() {
        Boards boards = Boards.of("@       |####### |        | #######|        |####### |        | #######");
        due.is("way(0, 7)", boards.way(0, 7), 35);
        due.is("way(1, 7), a wall", boards.way(1, 7), -1);
    }

    static void notRoundTheEdge() {
        Boards boards = Boards.of("       @|        |");
        due.is("way(0, 1)", boards.way(0, 1), 8);
        due.is("way(0, 0)", boards.way(0, 0), 7);
    }

    static void behindAMoveAndItsUndo() {
        Boards boards = Boards.of("@$   ");
        due.is("way(1, 0)", boards.way(1, 0), -1);
        due.is("move(0)", boards.move(0), 2);
        due.is("way(0, 0)", boards.way(0, 0), 1);
        due.is("way(1, 0)", boards.way(1, 0), 0);
        due.is("way(2, 0)", boards.way(2, 0), -1);
        due.is("undo()", boards.undo(), 2);
        due.is("way(0, 0)", boards.way(0, 0), 0);
        due.is("way(2, 0)", boards.way(2, 0), -1);
    }
}
