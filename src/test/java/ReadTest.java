/** Promises 2 and 3: bytes of the text, and reading it as a picture. */
public final class ReadTest {
    private static final Due due = new Due("unit, read");

    public static void main(String[] args) {
        units();
        signs();
        rows();
        wrongBytes();
        limits();
        noBoards();
        nothingChanged();
        newBoard();
        due.end();
    }

    private static void units() {
        PushBoards boards = new PushBoards();
        due.is("unit(-1)", boards.unit(-1), false);
        due.is("unit(256)", boards.unit(256), false);
        due.is("unit(min)", boards.unit(Integer.MIN_VALUE), false);
        due.is("unit(0)", boards.unit(0), true);
        due.is("unit(255)", boards.unit(255), true);
        for (int i = 2; i < 160; i++) {
            due.is("unit " + i, boards.unit(64), true);
        }
        due.is("161st unit", boards.unit(64), false);
        due.is("read()", boards.read(), -1);
        due.is("unit() once the text is gone", boards.unit(64), true);
        due.is("read() of what came behind", boards.read(), 0);
        for (int i = 0; i < 160; i++) {
            boards.unit(i == 159 ? 'x' : i % 2 == 0 ? 'r' : 'l');
        }
        due.is("161st unit", boards.unit(64), false);
        due.is("row()", boards.row(), -1);
        due.is("unit() once the row is gone", boards.unit('@'), true);
    }

    private static void signs() {
        PushBoards boards = new PushBoards();
        due.is("read()", Due.read(boards, "#_ .$*@"), 2);
        due.is("picture", Due.picture(boards), "#  .$*@|");
        due.is("goals", boards.told(3), 2);
        due.is("read()", Due.read(boards, "+$"), 1);
        due.is("picture", Due.picture(boards), "+$|");
        due.is("goals", boards.told(3), 1);
    }

    private static void rows() {
        PushBoards boards = new PushBoards();
        due.is("read()", Due.read(boards, "@\n###\n\n#|"), 0);
        due.is("picture", Due.picture(boards), "@  |###|   |#  |");
        due.is("read()", Due.read(boards, "|@"), 0);
        due.is("picture", Due.picture(boards), " |@|");
        due.is("read()", Due.read(boards, "@|"), 0);
        due.is("H, an end behind the last row", boards.told(1), 1);
        due.is("read()", Due.read(boards, "@||"), 0);
        due.is("H, an empty last row", boards.told(1), 2);
        due.is("read()", Due.read(boards, "@" + Due.times("|", 8)), 0);
        due.is("H", boards.told(1), 8);
        due.is("read()", Due.read(boards, Due.times("|", 7) + "@"), 0);
        due.is("H", boards.told(1), 8);
        due.is("the person", boards.told(7), 7);
        due.is("read()", Due.read(boards, Due.times("########|", 7) + "#######@"), 0);
        due.is("the person", boards.told(7), 63);
    }

    private static void wrongBytes() {
        String good = "#_.$*@";
        for (int unit = 0; unit < 256; unit++) {
            boolean fits = "# _.$*@+|\n".indexOf(unit) >= 0;
            PushBoards boards = new PushBoards();
            Due.write(boards, good.substring(0, 3));
            boards.unit(unit);
            int answer = boards.read();
            due.is("read() with byte " + unit, answer == -4, !fits);
        }
        PushBoards boards = new PushBoards();
        due.is("a ninth cell", Due.read(boards, "@|         "), -11);
        due.is("a ninth byte ends the row", Due.read(boards, "@|        |"), 0);
        due.is("a byte behind eight rows", Due.read(boards, "@||||||||_"), -10);
        due.is("an end behind eight rows", Due.read(boards, "@|||||||||"), -10);
        due.is("a second person", Due.read(boards, "@ @"), -3);
        due.is("a second person on a goal", Due.read(boards, "@ +$"), -3);
        due.is("a second person behind one on a goal", Due.read(boards, "+@$"), -2);
        due.is("the first wrong byte is told", Due.read(boards, "@a@b"), -2);
        due.is("a wrong byte ahead of too few boxes", Due.read(boards, "..x"), -3);
    }

    private static void limits() {
        PushBoards boards = new PushBoards();
        String dozen = "$$$$$$|$$$$$$|";
        due.is("twelve boxes", Due.read(boards, dozen + "@"), 12);
        due.is("a 13th box", Due.read(boards, dozen + "@$"), -16);
        due.is("a 13th box on a goal", Due.read(boards, dozen + "@*"), -16);
        String goals = "......|......|";
        due.is("twelve goals", Due.read(boards, goals + dozen + "@"), 12);
        due.is("told(3)", boards.told(3), 12);
        due.is("a 13th goal", Due.read(boards, goals + dozen + "@."), -30);
        due.is("a 13th goal under the person", Due.read(boards, goals + dozen + "+"), -29);
        due.is("a 13th goal under a box", Due.read(boards, goals + "$$$*@"), -18);
        due.is("twelve boxes on goals", Due.read(boards, "******|******|@"), 12);
        due.is("told(4)", boards.told(4), 12);
    }

    private static void noBoards() {
        PushBoards boards = new PushBoards();
        String[] pictures = {"", "|", "||||||||", "#", "   ", "$.", "@.", "+", "@$..", "@*."};
        for (String picture : pictures) {
            due.is("read() of " + picture, Due.read(boards, picture), -200);
        }
        due.is("W", boards.told(0), 0);
        due.is("more boxes than goals", Due.read(boards, "@$$."), 2);
        due.is("no goals", Due.read(boards, "@$"), 1);
    }

    private static void nothingChanged() {
        PushBoards boards = Due.board("@$ .|    ");
        Due.row(boards, "rd");
        due.is("search()", boards.search(50), 1);
        String[] pictures = {"@@", "@.", "", "####z", "@|||||||||"};
        for (String picture : pictures) {
            due.is("read() of " + picture, Due.read(boards, picture) < 0, true);
            due.is("picture", Due.picture(boards), "  $.| @  |");
            due.is("letters", Due.letters(boards), "Rd");
            due.is("told(5)", boards.told(5), 2);
            due.is("states()", boards.states() > 1, true);
            due.is("the text is gone", boards.read(), -200);
        }
        due.is("undo()", boards.undo(), 1);
        due.is("undo()", boards.undo(), 2);
        due.is("picture", Due.picture(boards), "@$ .|    |");
    }

    private static void newBoard() {
        PushBoards boards = Due.board("@$ .|    ");
        Due.row(boards, "Rd");
        due.is("read()", Due.read(boards, "# @|.$ "), 1);
        due.is("picture", Due.picture(boards), "# @|.$ |");
        due.is("told(5)", boards.told(5), 0);
        due.is("told(6)", boards.told(6), 0);
        due.is("letter(0)", boards.letter(0), -1);
        due.is("undo()", boards.undo(), 0);
        due.is("live cells anew", Due.dead(boards, 2, 1), 1);
    }
}
