/** Promise 12: dead. */
public final class Promise12Test {
    private static final Due due = new Due("promise 12, dead");

    public static void main(String[] args) {
        due.runCases(Promise12Test.class);
    }

    /** Row by row 1 dead, 0 not: worked out by hand from the pulls. */
    private static void all(Boards boards, String... dead) {
        for (int y = 0; y < dead.length; y++) {
            for (int x = 0; x < dead[y].length(); x++) {
                due.is("dead(" + x + ", " + y + ")", boards.dead(x, y), dead[y].charAt(x) - '0');
            }
        }
    }

    static void withoutABoard() {
        Boards boards = new Boards();
        int[][] cells = {{0, 0}, {-1, 0}, {0, -1}, {7, 7}, {Integer.MIN_VALUE, Integer.MAX_VALUE}};
        for (int[] cell : cells) {
            due.is("dead(" + cell[0] + ", " + cell[1] + ")", boards.dead(cell[0], cell[1]), Boards.NO_INDEX);
        }
    }

    static void noSuchColumn() {
        Boards boards = Boards.of("@  |   ");
        for (int x : new int[] {-1, 3, 4, 7, 8, Integer.MIN_VALUE, Integer.MAX_VALUE}) {
            due.is("dead(" + x + ", 0)", boards.dead(x, 0), Boards.NO_INDEX);
            due.is("dead(" + x + ", 1)", boards.dead(x, 1), Boards.NO_INDEX);
        }
    }

    static void noSuchRow() {
        Boards boards = Boards.of("@  |   ");
        for (int y : new int[] {-1, 2, 3, 7, 8, Integer.MIN_VALUE, Integer.MAX_VALUE}) {
            due.is("dead(0, " + y + ")", boards.dead(0, y), Boards.NO_INDEX);
            due.is("dead(2, " + y + ")", boards.dead(2, y), Boards.NO_INDEX);
        }
    }

    static void noSuchCellOfTheLargestBoard() {
        Boards boards = Boards.of("@       ||||||||");
        due.is("dead(8, 0)", boards.dead(8, 0), Boards.NO_INDEX);
        due.is("dead(0, 8)", boards.dead(0, 8), Boards.NO_INDEX);
        due.is("dead(-1, 1)", boards.dead(-1, 1), Boards.NO_INDEX);
        due.is("dead(7, 7)", boards.dead(7, 7), 1);
    }

    static void aWallIsNot() {
        all(Boards.of("@ # .$"), "110101");
        all(Boards.of("####|#@ #|####"), "0000", "0110", "0000");
    }

    static void aGoalIsNot() {
        all(Boards.of("+#$"), "001");
        all(Boards.of("*@"), "01");
        all(Boards.of("###|#*#|###|@"), "000", "000", "000", "111");
    }

    static void withoutGoalsAllFloorIs() {
        all(Boards.of("@ $$|  $ "), "1111", "1111");
        all(Boards.of("@"), "1");
    }

    static void behindMovesItIsTheSame() {
        Boards boards = Boards.of("@$.  ");
        all(boards, "10001");
        due.is("row()", boards.row("2r"), 2);
        all(boards, "10001");
        due.is("undo()", boards.undo(), 2);
        all(boards, "10001");
    }

    static void ofTheLatestBoard() {
        Boards boards = Boards.of("@$.  ");
        due.is("read()", boards.read("@$  ."), 1);
        all(boards, "10000");
    }
}
