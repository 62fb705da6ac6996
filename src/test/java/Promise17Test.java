/** Promise 17: search. In which order states are come to is looked at in TermsSearchTest. */
public final class Promise17Test {
    private static final Due due = new Due("promise 17, search");
    private static final String LANE = "@$   .";
    private static final String WIDE = "        | $ $ $  |        |  $ $ $ |        | ...... |        |@       ";
    /** All nine live cells are come to, the goal last of them. */
    private static final String ROOM = "#######|#@    #|# $   #|#     #|#   . #|#     #|#######";

    /**
     * One of two goals is walled in, and 35 places are live: the inner six by six but for the one in the corner
     * that has walls below it and on its right. Two boxes can come to any two of them, and hold nobody up.
     */
    private static final String NEVER_DONE =
        "@       |        |  $     |   .    |    $   |        |       #|      #.";
    private static final int TWO_OF_35 = 35 * 34 / 2;

    public static void main(String[] args) {
        due.runCases(Promise17Test.class);
    }

    private static void is(String picture, int most, int answer, int states) {
        Boards boards = Boards.of(picture);
        due.is(picture + " search(" + most + ")", boards.search(most), answer);
        due.is(picture + " states()", boards.states(), states);
    }

    static void withoutABoard() {
        for (int most : new int[] {1, 5, 10000}) {
            due.is("search(" + most + ")", new Boards().search(most), -3);
        }
    }

    static void withoutABoardBehindARefusedPicture() {
        Boards boards = new Boards();
        due.is("read()", boards.read("@$. $..."), -200);
        due.is("search(9)", boards.search(9), -3);
    }

    static void mostTooSmall() {
        due.is("search(0)", Boards.of(LANE).search(0), -3);
        for (int most : Boards.TOO_SMALL) {
            due.is("search(" + most + ")", Boards.of(LANE).search(most), -3);
        }
    }

    static void mostTooLarge() {
        for (int most : new int[] {10001, 16384, Integer.MAX_VALUE}) {
            due.is("search(" + most + ")", Boards.of(LANE).search(most), -3);
        }
    }

    static void mostTooSmallForADoneBoard() {
        due.is("search(0)", Boards.of("@*").search(0), -3);
        due.is("search(10001)", Boards.of("@*").search(10001), -3);
    }

    static void minus3DoesNothing() {
        Boards boards = Boards.of("@$ .");
        due.is("search(9)", boards.search(9), 2);
        due.is("move(0)", boards.move(0), 2);
        for (int most : new int[] {0, -1, 10001, Integer.MAX_VALUE, Integer.MIN_VALUE}) {
            due.is("search(" + most + ")", boards.search(most), -3);
            due.is("push(0)", boards.push(0), 4);
            due.is("push(1)", boards.push(1), 8);
            due.is("push(2)", boards.push(2), -1);
            due.is("states()", boards.states(), 3);
            due.is("picture", boards.picture(), " @$.|");
            due.is("told(5)", boards.told(5), 1);
        }
    }

    static void theLeastMost() {
        is("@*", 1, 0, 1);
        is(LANE, 1, -2, 1);
    }

    static void theGreatestMost() {
        is(LANE, 10000, 4, 5);
        is(WIDE, 10000, -2, 10000);
    }

    static void oneBelowTheGreatestMost() {
        is(WIDE, 9999, -2, 9999);
    }

    static void doneAtOnce() {
        is("@*", 10, 0, 1);
        is("@*$", 10, 0, 1);
    }

    static void doneAtOnceWithoutGoals() {
        is("@", 10, 0, 1);
        is("@$", 1, 0, 1);
        is(" ||$|@", 10, 0, 1);
    }

    static void doneAtOnceThoughThereArePushes() {
        is("@*   ", 10, 0, 1);
        is("@*   ", 1, 0, 1);
    }

    static void doneAtOnceThoughStuck() {
        is("@|$$$", 10, 0, 1);
    }

    static void onePush() {
        is("#####|#@$.#|#####", 10, 1, 2);
    }

    static void noneBecauseNothingCanBePushed() {
        is("@ # .$", 10, -1, 1);
        is("@#$.", 10, -1, 1);
    }

    static void noneThoughSomeCanBePushed() {
        is(".@$  ", 10, -1, 2);
    }

    /** -1, not -2: all there is has been taken in, and nothing more would have to be. */
    static void noneWithJustEnoughStates() {
        is("@ # .$", 1, -1, 1);
        is(".@$  ", 2, -1, 2);
    }

    static void noneWithOneStateTooFew() {
        is(".@$  ", 1, -2, 1);
    }

    static void noneAmongManyStates() {
        is(NEVER_DONE, 10000, -1, TWO_OF_35);
        is(NEVER_DONE, TWO_OF_35, -1, TWO_OF_35);
        is(NEVER_DONE, TWO_OF_35 - 1, -2, TWO_OF_35 - 1);
    }

    static void justEnoughStates() {
        is(LANE, 5, 4, 5);
        is(ROOM, 9, 4, 9);
    }

    static void oneStateTooFew() {
        is(LANE, 4, -2, 4);
        is(ROOM, 8, -2, 8);
    }

    static void fewerStatesStill() {
        for (int most = 1; most < 4; most++) {
            is(LANE, most, -2, most);
        }
    }

    /** States that are passed over need no room. */
    static void passedOverStatesNeedNoRoom() {
        is(".@$ ", 1, -1, 1);
        is("@$ $..", 1, -1, 1);
    }

    static void moreStatesThanAnEarlierSearchHad() {
        Boards boards = Boards.of(WIDE);
        for (int most : new int[] {3, 127, 128, 129, 130, 1000, 10000, 5}) {
            due.is("search(" + most + ")", boards.search(most), -2);
            due.is("states()", boards.states(), most);
        }
    }

    static void againItIsTheSame() {
        Boards boards = Boards.of(ROOM);
        for (int time = 0; time < 3; time++) {
            due.is("search()", boards.search(10000), 4);
            due.is("states()", boards.states(), 9);
        }
    }

    static void theBoardStays() {
        Boards boards = Boards.of("@$ .|    ");
        due.is("row()", boards.row("rd"), 2);
        due.is("search()", boards.search(50), 1);
        due.is("picture", boards.picture(), "  $.| @  |");
        due.is("letters", boards.letters(), "Rd");
        due.is("told(5)", boards.told(5), 2);
        due.is("told(6)", boards.told(6), 1);
        due.is("undo()", boards.undo(), 1);
    }

    static void fromWhatIsNow() {
        Boards boards = Boards.of(LANE);
        for (int left = 4; left >= 0; left--) {
            due.is("search()", boards.search(10), left);
            due.is("states()", boards.states(), left + 1);
            due.is("move(0)", boards.move(0), left > 0 ? 2 : 0);
        }
        due.is("undo()", boards.undo(), 2);
        due.is("search() behind an undo", boards.search(10), 1);
    }

    static void knownLevels() {
        due.is("three pushes", Boards.of("######|#    #|# #@ #|# $* #|# .* #|#    #|######").search(10000), 3);
        due.is("eight pushes", Boards.of("####|# .#|#  ###|#*@  #|#  $ #|#  ###|####").search(10000), 8);
    }
}
