/** Promises 10, 11 and 12: where the person can go, in how many moves, and dead places. */
public final class WaysTest {
    private static final Due due = new Due("reach, way, dead");

    public static void main(String[] args) {
        reaches();
        ways();
        longWay();
        deadCells();
        noSuchCells();
        due.end();
    }

    private static void reaches() {
        due.is("alone", Due.board("@").reach(), 1);
        due.is("the whole board", Due.board("@       ||||||||").reach(), 64);
        due.is("behind a box", Due.board("@ $  ").reach(), 2);
        due.is("behind a wall", Due.board("@ #  ").reach(), 2);
        due.is("no way aslant", Due.board("@#|# ").reach(), 1);
        due.is("not round the edge", Due.board("       @|#######$|    ").reach(), 8);
        due.is("goals are floor", Due.board("@..$$").reach(), 3);
        PushBoards boards = Due.board("@$   ");
        due.is("reach()", boards.reach(), 1);
        boards.move(0);
        due.is("reach() behind a push", boards.reach(), 2);
        boards.undo();
        due.is("reach() behind an undo", boards.reach(), 1);
    }

    private static void ways() {
        PushBoards boards = Due.board("@ # |  # |  $.");
        int[][] fewest = {{0, 1, -1, -1}, {1, 2, -1, -1}, {2, 3, -1, -1}};
        for (int y = 0; y < 3; y++) {
            for (int x = 0; x < 4; x++) {
                due.is("way(" + x + ", " + y + ")", Due.way(boards, x, y), fewest[y][x]);
            }
        }
        due.is("row()", Due.row(boards, "2drR"), 4);
        due.is("row()", Due.row(boards, "r"), -1);
        due.is("way(3, 2), a box", Due.way(boards, 3, 2), -1);
        due.is("way(2, 2), the person", Due.way(boards, 2, 2), 0);
        due.is("way(0, 0)", Due.way(boards, 0, 0), 4);
        boards = Due.board("   | $ | @ ");
        due.is("round a box", Due.way(boards, 1, 0), 4);
    }

    private static void longWay() {
        StringBuilder maze = new StringBuilder();
        for (int y = 0; y < 8; y++) {
            maze.append(y == 0 ? "@       |" : y % 4 == 1 ? "####### |" : y % 4 == 3 ? " #######|" : "        |");
        }
        PushBoards boards = Due.board(maze.toString());
        due.is("reach()", boards.reach(), 36);
        due.is("to the end", Due.way(boards, 0, 7), 35);
        due.is("a wall", Due.way(boards, 7, 7), -1);
    }

    /** 1 dead, 0 live or a wall: worked out by hand from the pulls. */
    private static void deadCells() {
        PushBoards boards = Due.board("#####|#   #|# .$#|#@  #|#####");
        allDead(boards, "a goal in the middle pulls to no edge", "00000", "01110", "01010", "01110", "00000");
        allDead(Due.board("@     |      |  .   |     $"), "two more cells to pull over", "111111", "100001", "100001", "111111");
        boards = Due.board("@   |    |.   |    |   $");
        allDead(boards, "a goal at the edge", "1111", "0001", "0001", "0001", "1111");
        boards.move(1);
        allDead(boards, "the person does not hinder", "1111", "0001", "0001", "0001", "1111");
        allDead(Due.board("@ $$|  $ "), "no goals", "1111", "1111");
        allDead(Due.board("@$.  "), "a lane", "10001");
        allDead(Due.board("@$$.#"), "a lane that ends at the goal", "10000");
        allDead(Due.board("@ # .$"), "walls are not dead", "110101");
        allDead(Due.board("*@"), "a goal is live wherever it is", "01");
    }

    private static void allDead(PushBoards boards, String what, String... dead) {
        for (int y = 0; y < dead.length; y++) {
            for (int x = 0; x < dead[y].length(); x++) {
                due.is(what + ": dead(" + x + ", " + y + ")", Due.dead(boards, x, y), dead[y].charAt(x) - '0');
            }
        }
    }

    private static void noSuchCells() {
        PushBoards boards = Due.board("@  |   ");
        int[][] none = {{-1, 0}, {0, -1}, {3, 0}, {0, 2}, {Integer.MAX_VALUE, 0}, {0, Integer.MIN_VALUE}, {8, 8}};
        for (int[] cell : none) {
            String where = cell[0] + ", " + cell[1];
            due.is("way(" + where, Due.way(boards, cell[0], cell[1]), Due.NO_CELL);
            due.is("dead(" + where, Due.dead(boards, cell[0], cell[1]), Due.NO_CELL);
        }
        due.is("way(2, 1)", Due.way(boards, 2, 1), 3);
        due.is("dead(2, 1)", Due.dead(boards, 2, 1), 1);
    }
}
