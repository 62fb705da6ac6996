/** Promise 19: states. */
public final class Promise19Test {
    private static final Due due = new Due("promise 19, states");
    private static final String LANE = "@$   .";

    public static void main(String[] args) {
        due.runCases(Promise19Test.class);
    }

    static void beforeAnySearch() {
        due.is("states()", new Boards().states(), 0);
        due.is("states()", Boards.of(LANE).states(), 0);
    }

    static void beforeAnySearchThatWasNotMinus3() {
        Boards boards = new Boards();
        due.is("search(5)", boards.search(5), -3);
        due.is("states()", boards.states(), 0);
        due.is("read()", boards.read(LANE), 1);
        due.is("search(0)", boards.search(0), -3);
        due.is("search(10001)", boards.search(10001), -3);
        due.is("states()", boards.states(), 0);
    }

    static void thePresentOneCounts() {
        Boards boards = Boards.of("@*");
        due.is("search(5)", boards.search(5), 0);
        due.is("states()", boards.states(), 1);
    }

    static void theLastOneCounts() {
        Boards boards = Boards.of(LANE);
        due.is("search(9)", boards.search(9), 4);
        due.is("states()", boards.states(), 5);
    }

    static void behindMinus1() {
        Boards boards = Boards.of(".@$  ");
        due.is("search(9)", boards.search(9), -1);
        due.is("states()", boards.states(), 2);
    }

    static void behindMinus2() {
        Boards boards = Boards.of(LANE);
        for (int most = 1; most < 5; most++) {
            due.is("search(" + most + ")", boards.search(most), -2);
            due.is("states()", boards.states(), most);
        }
    }

    static void allTenThousand() {
        Boards boards = Boards.of("        | $ $ $  |        |  $ $ $ |        | ...... |        |@       ");
        due.is("search(10000)", boards.search(10000), -2);
        due.is("states()", boards.states(), 10000);
    }

    static void behindMinus3ItStays() {
        Boards boards = Boards.of(LANE);
        due.is("search(9)", boards.search(9), 4);
        due.is("search(0)", boards.search(0), -3);
        due.is("states()", boards.states(), 5);
    }

    static void passedOverStatesAreNotCounted() {
        Boards boards = Boards.of("@$ $..");
        due.is("search(9)", boards.search(9), -1);
        due.is("states(), a state that is stuck", boards.states(), 1);
        due.is("read()", boards.read(".@$ "), 1);
        due.is("search(9)", boards.search(9), -1);
        due.is("states(), a state with a box on a dead cell", boards.states(), 1);
    }

    static void onlyOfTheLatestSearch() {
        Boards boards = Boards.of(LANE);
        due.is("search(9)", boards.search(9), 4);
        due.is("search(2)", boards.search(2), -2);
        due.is("states()", boards.states(), 2);
        due.is("search(9)", boards.search(9), 4);
        due.is("states()", boards.states(), 5);
    }

    static void itStaysBehindMovesAndANewBoard() {
        Boards boards = Boards.of(LANE);
        due.is("search(9)", boards.search(9), 4);
        due.is("move(0)", boards.move(0), 2);
        due.is("states()", boards.states(), 5);
        due.is("read()", boards.read("@"), 0);
        due.is("states()", boards.states(), 5);
    }
}
