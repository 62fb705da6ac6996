/** Promise 13: fast. What it is to stand fast is looked at in TermsFastTest. */
public final class Promise13Test {
    private static final Due due = new Due("promise 13, fast");

    public static void main(String[] args) {
        due.runCases(Promise13Test.class);
    }

    static void withoutABoard() {
        due.is("fast()", new Boards().fast(), 0);
    }

    static void withoutABoardBehindARefusedPicture() {
        Boards boards = new Boards();
        due.is("read()", boards.read("$$$"), -200);
        due.is("fast()", boards.fast(), 0);
    }

    static void withoutBoxes() {
        due.is("fast()", Boards.of("@").fast(), 0);
    }

    static void noneOfTheBoxes() {
        due.is("fast()", Boards.of("@$.").fast(), 0);
    }

    static void someOfTheBoxes() {
        due.is("fast()", Boards.of("       |       |$  $.  |       | @     ").fast(), 1);
    }

    static void allTwelveBoxes() {
        due.is("fast()", Boards.of("$$$$$$|$$$$$$|@     ").fast(), 12);
        due.is("fast() on goals", Boards.of("******|******|@     ").fast(), 12);
    }

    static void boxesOnGoalsCountToo() {
        due.is("fast()", Boards.of("*  |  $|@  ").fast(), 2);
    }

    static void behindAPushAndItsUndo() {
        Boards boards = Boards.of("     |     |@$ . |     |     ");
        due.is("row()", boards.row("2r"), 2);
        due.is("fast()", boards.fast(), 0);
        due.is("move(0)", boards.move(0), 2);
        due.is("fast() at the edge", boards.fast(), 1);
        due.is("undo()", boards.undo(), 2);
        due.is("fast()", boards.fast(), 0);
    }
}
