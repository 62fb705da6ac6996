/** Promise 4: row. */
public final class Promise04Test {
    private static final Due due = new Due("promise 4, row");
    private static final String LANE = "@       ";

    public static void main(String[] args) {
        due.runCases(Promise04Test.class);
    }

    /** A new board, a row, what it answers, and the letters of the moves that stay done. */
    private static void is(String picture, String moves, int answer, String letters) {
        Boards boards = Boards.of(picture);
        due.is("row() of " + moves, boards.row(moves), answer);
        due.is("letters behind " + moves, boards.letters(), letters);
    }

    static void anEmptyText() {
        is(LANE, "", 0, "");
    }

    static void smallLetters() {
        is("   | @ |   ", "rdlluurr", 8, "rdlluurr");
    }

    static void greatLettersWithoutAPush() {
        is("   | @ |   ", "RDLLUURR", 8, "rdlluurr");
    }

    static void smallLettersThatPush() {
        is("@$   ", "rr", 2, "RR");
    }

    static void greatLettersThatPush() {
        is("@$   ", "RR", 2, "RR");
    }

    static void eachMoveIsDoneAtOnce() {
        Boards boards = Boards.of("@$  |    ");
        due.is("row()", boards.row("rdrruL"), 6);
        due.is("picture", boards.picture(), " $@ |    |");
    }

    static void theLeastDigit() {
        is(LANE, "2r", 2, "rr");
    }

    static void theGreatestDigitThatABoardHasRoomFor() {
        is(LANE, "7r", 7, "rrrrrrr");
    }

    static void everyDigitBetween() {
        is(LANE, "3r2l4r5l6r", 20, "rrrllrrrrlllllrrrrrr");
    }

    /** No board has room for them, so it is at the letter that they end. */
    static void theDigits8And9() {
        is(LANE, "8r", -2, "rrrrrrr");
        is(LANE, "9r", -2, "rrrrrrr");
        is(LANE, "r9r", -3, "rrrrrrr");
    }

    static void theDigits0And1() {
        is(LANE, "0r", -1, "");
        is(LANE, "1r", -1, "");
        is(LANE, "r0r", -2, "r");
        is(LANE, "r1r", -2, "r");
        is(LANE, "20r", -2, "");
        is(LANE, "21r", -2, "");
    }

    static void aDigitAheadOfAGreatLetter() {
        is("@$      ", "6R", 6, "RRRRRR");
    }

    static void aDigitCountsForOneLetter() {
        is(LANE, "2rrl", 4, "rrrl");
    }

    static void twoDigits() {
        is(LANE, "23r", -2, "");
        is(LANE, "r22r", -3, "r");
    }

    static void aDigitAheadOfAnotherByte() {
        is(LANE, "2x", -2, "");
        is(LANE, "r2 r", -3, "r");
    }

    static void aTextThatEndsWithADigit() {
        is(LANE, "2", -2, "");
        is(LANE, "9", -2, "");
        is(LANE, "rr3", -4, "rr");
        is(LANE, "2r2", -4, "rr");
    }

    static void aTextOf160ThatEndsWithADigit() {
        Boards boards = Boards.of(LANE);
        due.is("row()", boards.row("rl".repeat(79) + "r5"), -161);
        due.is("told(5)", boards.told(5), 159);
    }

    static void anotherByte() {
        for (int u = 0; u < 256; u++) {
            Boards boards = Boards.of("   | @ |   ");
            boards.unit('r');
            boards.unit(u);
            boolean wall = u == 'r' || u == 'R';
            int there = "dluDLU".indexOf(u) >= 0 ? 2 : "23456789".indexOf(u) >= 0 ? -3 : -2;
            due.is("row() with byte " + u, boards.row(), wall ? -2 : there);
            due.is("told(5)", boards.told(5), there == 2 ? 2 : 1);
        }
    }

    static void aWrongByteAtTheFirstPlace() {
        is(LANE, "xr", -1, "");
    }

    static void aMoveThatCantBeDoneAtTheFirstPlace() {
        is(LANE, "l", -1, "");
        is(LANE, "ur", -1, "");
    }

    static void aMoveThatCantBeDoneFurtherBehind() {
        is(LANE, "rrurr", -3, "rr");
    }

    static void aPushThatCantBeDone() {
        is("@$ ", "rrl", -2, "R");
        is("@$ $ ", "rr", -2, "R");
        is("@$#", "r", -1, "");
    }

    /** The place is that of the letter, not of its digit, and what could be done stays done. */
    static void onlySomeOfADigitsMovesCanBeDone() {
        is("@  ", "5r", -2, "rr");
        is("@$  ", "r4r", -3, "RR");
        is("@  ", "2u", -2, "");
    }

    static void theLastOf160BytesCantBeThere() {
        Boards boards = Boards.of(LANE);
        due.is("row()", boards.row("rl".repeat(79) + "rx"), -160);
        due.is("told(5)", boards.told(5), 159);
    }

    static void aTextOf160Moves() {
        Boards boards = Boards.of(LANE);
        due.is("row()", boards.row("rl".repeat(80)), 160);
        due.is("told(5)", boards.told(5), 160);
    }

    static void theMostMovesOfOneText() {
        Boards boards = Boards.of(LANE);
        due.is("row()", boards.row("7r7l".repeat(40)), 560);
        due.is("told(5)", boards.told(5), 560);
        due.is("told(7)", boards.told(7), 0);
    }

    static void withoutABoard() {
        String[] rows = {"", "r", "D", "2r", "x", "2", "22", "1"};
        int[] answers = {0, -1, -1, -2, -1, -2, -2, -1};
        for (int i = 0; i < rows.length; i++) {
            Boards boards = new Boards();
            due.is("row() of " + rows[i], boards.row(rows[i]), answers[i]);
            due.is("told(5)", boards.told(5), 0);
        }
    }

    static void theTextIsGoneBehindItsMoves() {
        Boards boards = Boards.of(LANE);
        due.is("row()", boards.row("rr"), 2);
        due.is("row()", boards.row(), 0);
        due.is("row() of the next", boards.row("l"), 1);
        due.is("told(5)", boards.told(5), 3);
    }

    static void theTextIsGoneBehindAWrongByte() {
        Boards boards = Boards.of(LANE);
        due.is("row()", boards.row("rxrr"), -2);
        due.is("row()", boards.row(), 0);
        due.is("told(5)", boards.told(5), 1);
    }

    static void theTextIsGoneBehindADigit() {
        Boards boards = Boards.of(LANE);
        due.is("row()", boards.row("3"), -2);
        due.is("the digit does not count for the next text", boards.row("r"), 1);
    }

    static void theTextIsGoneWithoutABoard() {
        Boards boards = new Boards();
        due.is("row()", boards.row("rr"), -1);
        due.is("read()", boards.read("@  "), 0);
    }
}
