/** Promises 4, 5, 6 and 9: rows of moves, a move, undoing, and the letters of what was done. */
public final class MovesTest {
    private static final Due due = new Due("row, move, undo, letter");

    public static void main(String[] args) {
        moves();
        wrongMoves();
        pushesAtEdges();
        rows();
        wrongRows();
        undoing();
        manyMoves();
        due.end();
    }

    private static void moves() {
        PushBoards boards = Due.board("     |  $  | $@$ |  $  |     ");
        int[] ways = {0, 1, 2, 3};
        String[] after = {"     |  $  | $ @$|  $  |     |", "     |  $  | $ $ |  @  |  $  |",
            "     |  $  |$@ $ |  $  |     |", "  $  |  @  | $ $ |  $  |     |"};
        for (int way : ways) {
            due.is("move(" + way + ")", boards.move(way), 2);
            due.is("picture", Due.picture(boards), after[way]);
            due.is("told(6)", boards.told(6), 1);
            due.is("undo()", boards.undo(), 2);
            due.is("picture", Due.picture(boards), "     |  $  | $@$ |  $  |     |");
        }
        boards = Due.board("   | @ |   ");
        int[] person = {5, 7, 3, 1};
        for (int way : ways) {
            due.is("move(" + way + ")", boards.move(way), 1);
            due.is("told(7)", boards.told(7), person[way]);
            due.is("undo()", boards.undo(), 1);
            due.is("told(7)", boards.told(7), 4);
        }
    }

    private static void wrongMoves() {
        PushBoards boards = Due.board("@");
        int[] none = {-1, 4, Integer.MAX_VALUE, Integer.MIN_VALUE};
        for (int way : none) {
            due.is("move(" + way + ")", Due.move(boards, way), Due.NO_CELL);
        }
        for (int way = 0; way < 4; way++) {
            due.is("out of the board " + way, Due.move(boards, way), 0);
        }
        due.is("told(5)", boards.told(5), 0);
        due.is("undo()", boards.undo(), 0);
    }

    private static void pushesAtEdges() {
        due.is("a wall", Due.board("@#").move(0), 0);
        due.is("a box at the edge", Due.board("@$").move(0), 0);
        due.is("a box at a wall", Due.board("@$#").move(0), 0);
        due.is("a box at a box", Due.board("@$$ ").move(0), 0);
        due.is("a box to a goal", Due.board("@$.").move(0), 2);
        due.is("a box off a goal", Due.board("@* ").move(0), 2);
        String wide = "        |        |   ";
        PushBoards boards = Due.board("      @$|        |");
        due.is("a box does not come round the edge", boards.move(0), 0);
        boards = Due.board("        |$@      |");
        due.is("nor at the left", boards.move(2), 0);
        boards = Due.board("       @|" + wide);
        due.is("the person does not come round the edge", boards.move(0), 0);
        boards = Due.board("        |@       ");
        due.is("nor at the left", boards.move(2), 0);
    }

    private static void rows() {
        PushBoards boards = Due.board("        |  $     |   @    |        ");
        due.is("row()", Due.row(boards, "uLdDlU"), 6);
        due.is("letters", Due.letters(boards), "uLddlu");
        due.is("told(5)", boards.told(5), 6);
        due.is("told(6)", boards.told(6), 1);
        due.is("told(7)", boards.told(7), 17);
        due.is("the text is gone", boards.row(), 0);
        due.is("row()", Due.row(boards, "5r2l"), 7);
        due.is("told(7)", boards.told(7), 20);
        boards = Due.board("@       ");
        due.is("row()", Due.row(boards, "7R"), 7);
        due.is("row()", Due.row(boards, "2l3L2l"), 7);
        due.is("letters", Due.letters(boards), "rrrrrrrlllllll");
        boards = Due.board("@$      ");
        due.is("pushes by a digit", Due.row(boards, "6r"), 6);
        due.is("letters", Due.letters(boards), "RRRRRR");
    }

    private static void wrongRows() {
        PushBoards boards = Due.board("@   |    ");
        due.is("a move that can't be done", Due.row(boards, "rul"), -2);
        due.is("those done stay done", Due.letters(boards), "r");
        due.is("the text is gone", boards.row(), 0);
        due.is("at its letter, behind the digit", Due.row(boards, "3rr"), -2);
        due.is("those done stay done", Due.letters(boards), "rrr");
        due.is("another byte", Due.row(boards, "ldx"), -3);
        due.is("those done stay done", Due.letters(boards), "rrrld");
        String[] rows = {"0l", "1l", "l0l", "22l", "2", "l2", "2x", ":l", "l l", "|", "@"};
        int[] answers = {-1, -1, -2, -2, -2, -3, -2, -1, -2, -1, -1};
        for (int i = 0; i < rows.length; i++) {
            boards = Due.board("    @   |    ");
            due.is("row() of " + rows[i], Due.row(boards, rows[i]), answers[i]);
            boolean went = rows[i].startsWith("l");
            due.is("letters", Due.letters(boards), went ? "l" : "");
        }
        for (int unit = 0; unit < 256; unit++) {
            boards = Due.board("   | @ |   ");
            boards.unit(unit);
            due.is("row() of byte " + unit, boards.row(),
                "rdluRDLU".indexOf(unit) >= 0 ? 1 : "23456789".indexOf(unit) >= 0 ? -2 : -1);
        }
    }

    private static void undoing() {
        PushBoards boards = Due.board("      |@$ $. |      ");
        String done = "RurrDLurdr";
        due.is("row()", Due.row(boards, "rurrdLurdr"), 10);
        due.is("letters", Due.letters(boards), done);
        for (int left = done.length() - 1; left >= 0; left--) {
            due.is("undo()", boards.undo(), Character.isUpperCase(done.charAt(left)) ? 2 : 1);
            due.is("told(5)", boards.told(5), left);
            due.is("letters", Due.letters(boards), done.substring(0, left));
        }
        due.is("none is left", boards.undo(), 0);
        due.is("told(5)", boards.told(5), 0);
        due.is("told(6)", boards.told(6), 0);
        due.is("picture", Due.picture(boards), "      |@$ $. |      |");
        due.is("move behind an undo", boards.move(1), 1);
        due.is("letters", Due.letters(boards), "d");
        due.is("letter(1)", boards.letter(1), -1);
        due.is("letter(-1)", boards.letter(-1), -1);
        due.is("letter(max)", boards.letter(Integer.MAX_VALUE), -1);
        due.is("letter(min)", boards.letter(Integer.MIN_VALUE), -1);
    }

    /** 500 are kept; of those that go, the oldest first. */
    private static void manyMoves() {
        PushBoards boards = Due.board("@       ");
        due.is("row()", Due.row(boards, Due.times("7r7l", 35) + "7r"), 497);
        due.is("row()", Due.row(boards, "3l"), 3);
        due.is("letter(0)", boards.letter(0), 'r');
        due.is("letter(499)", boards.letter(499), 'l');
        due.is("letter(500)", boards.letter(500), -1);
        due.is("row()", Due.row(boards, "4l6r"), 10);
        due.is("told(5)", boards.told(5), 510);
        due.is("letter(3), the 14th move", boards.letter(3), 'l');
        due.is("letter(4), the 15th move", boards.letter(4), 'r');
        due.is("letter(493)", boards.letter(493), 'l');
        due.is("letter(494)", boards.letter(494), 'r');
        due.is("letter(499)", boards.letter(499), 'r');
        due.is("letter(500)", boards.letter(500), -1);
        for (int i = 0; i < 20; i++) {
            due.is("undo()", boards.undo(), 1);
        }
        due.is("told(5)", boards.told(5), 490);
        due.is("told(7)", boards.told(7), 0);
        due.is("letter(479)", boards.letter(479), 'l');
        due.is("letter(480)", boards.letter(480), -1);
        due.is("letter(3)", boards.letter(3), 'l');
    }
}
