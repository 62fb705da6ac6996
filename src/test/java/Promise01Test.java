/** Promise 1, a new object; and for how many calls it is used. */
public final class Promise01Test {
    private static final Due due = new Due("promise 1, a new object");

    public static void main(String[] args) {
        due.runCases(Promise01Test.class);
    }

    static void widthAndHeightAreNought() {
        Boards boards = new Boards();
        due.is("told(0)", boards.told(0), 0);
        due.is("told(1)", boards.told(1), 0);
    }

    static void thereIsNoBoard() {
        Boards boards = new Boards();
        due.is("move(0)", boards.move(0), Boards.NO_BOARD);
        due.is("search(1)", boards.search(1), -3);
        due.is("picture(0)", boards.picture(0), -1);
    }

    static void thereIsNoCell() {
        Boards boards = new Boards();
        due.is("way(0, 0)", boards.way(0, 0), Boards.NO_INDEX);
        due.is("dead(0, 0)", boards.dead(0, 0), Boards.NO_INDEX);
        due.is("pushes(0, 0, 0, 0)", boards.pushes(0, 0, 0, 0), Boards.NO_INDEX);
    }

    static void theTextIsEmpty() {
        due.is("row()", new Boards().row(), 0);
        Boards boards = new Boards();
        due.is("read()", boards.read(), -200);
        due.is("read() of one byte", boards.read("x"), -1);
    }

    static void aRefusedPictureMakesNoBoard() {
        String[] pictures = {"", "x", "@.", "@@", "$"};
        for (String picture : pictures) {
            Boards boards = new Boards();
            due.is("read() of " + picture, boards.read(picture) < 0, true);
            due.is("told(0)", boards.told(0), 0);
            due.is("told(1)", boards.told(1), 0);
            due.is("move(0)", boards.move(0), Boards.NO_BOARD);
        }
    }

    static void twoObjectsShareNothing() {
        Boards one = Boards.of("@$.");
        Boards other = new Boards();
        due.is("search()", one.search(9), 1);
        due.is("move(0)", one.move(0), 2);
        one.unit('x');
        due.is("told(0) of the other", other.told(0), 0);
        due.is("told(5) of the other", other.told(5), 0);
        due.is("states() of the other", other.states(), 0);
        due.is("push(0) of the other", other.push(0), -1);
        due.is("read() by the other", other.read("@  |   "), 0);
        due.is("told(0)", one.told(0), 3);
        due.is("told(1)", one.told(1), 1);
        due.is("undo() by the other", other.undo(), 0);
        due.is("undo()", one.undo(), 2);
    }

    /** The last call for which something is promised. */
    static void the512thCall() {
        Boards boards = Boards.of("@       ");
        int done = 0;
        while (boards.callsLeft() > 1) {
            due.is("move", boards.move(done % 2 == 0 ? 0 : 2), 1);
            done++;
        }
        due.is("told(5)", boards.told(5), done);
        due.is("calls left", boards.callsLeft(), 0);
    }
}
