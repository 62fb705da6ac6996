/** Promise 15: bound. How boxes are given to goals is looked at in TermsBoundTest. */
public final class Promise15Test {
    private static final Due due = new Due("promise 15, bound");

    public static void main(String[] args) {
        due.runCases(Promise15Test.class);
    }

    private static void is(String picture, int bound) {
        due.is(picture + " bound()", Boards.of(picture).bound(), bound);
    }

    static void withoutABoard() {
        due.is("bound()", new Boards().bound(), 0);
    }

    static void withoutABoardBehindARefusedPicture() {
        Boards boards = new Boards();
        due.is("read()", boards.read("@..$"), -200);
        due.is("bound()", boards.bound(), 0);
    }

    static void withoutGoals() {
        is("@$$", 0);
        is("$|@", 0);
    }

    static void withoutGoalsAndBoxes() {
        is("@", 0);
    }

    static void allGoalsHaveABox() {
        is("@**", 0);
        is("@*$", 0);
        is("******|******|@", 0);
    }

    static void onePush() {
        is("@$.", 1);
    }

    static void itCantBe() {
        is("$   |    |  @.|    ", -1);
        is("@ #.#$ ", -1);
    }

    static void twelveOfTwelve() {
        is("        | $$$$$$ | $$$$$$ |        | ...... | ...... |        |@", 36);
        is("        | ****** | *****$ | @   .  |        ", 2);
    }

    static void behindAPushAndItsUndo() {
        Boards boards = Boards.of("@$  .");
        due.is("bound()", boards.bound(), 3);
        due.is("move(0)", boards.move(0), 2);
        due.is("bound()", boards.bound(), 2);
        due.is("undo()", boards.undo(), 2);
        due.is("bound()", boards.bound(), 3);
    }

    static void twiceItIsTheSame() {
        Boards boards = Boards.of("@$ .$  .|########|.  $. $_|########|_$. .$ _|########|_$$ .. _");
        for (int time = 0; time < 3; time++) {
            due.is("bound()", boards.bound(), 18);
        }
    }

    static void behindABoardWhereItCantBe() {
        Boards boards = Boards.of("$     |      | @$ ..|      ");
        due.is("bound()", boards.bound(), -1);
        due.is("read()", boards.read("@  .| $$ |#   "), 2);
        due.is("bound()", boards.bound(), 2);
    }

    /** Costs of a larger board before must not be left over. */
    static void ofTheLatestBoard() {
        Boards boards = Boards.of("@$$$.  .");
        due.is("bound()", boards.bound(), 6);
        due.is("read()", boards.read("@$ ."), 1);
        due.is("bound()", boards.bound(), 2);
        due.is("read()", boards.read("@$ $ . ."), 2);
        due.is("bound()", boards.bound(), 8);
        due.is("read()", boards.read("@$ ."), 1);
        due.is("bound()", boards.bound(), 2);
    }
}
