/** Promise 8: picture. */
public final class Promise08Test {
    private static final Due due = new Due("promise 8, picture");

    public static void main(String[] args) {
        due.runCases(Promise08Test.class);
    }

    static void withoutABoard() {
        Boards boards = new Boards();
        for (int i : new int[] {0, 1, -1, Integer.MAX_VALUE}) {
            due.is("picture(" + i + ")", boards.picture(i), -1);
        }
    }

    static void noByteBelow() {
        Boards boards = Boards.of("@ |  ");
        for (int i : Boards.TOO_SMALL) {
            due.is("picture(" + i + ")", boards.picture(i), -1);
        }
    }

    static void noByteAbove() {
        Boards boards = Boards.of("@ |  ");
        for (int i : new int[] {6, 7, 64, Integer.MAX_VALUE}) {
            due.is("picture(" + i + ")", boards.picture(i), -1);
        }
    }

    static void theSmallestBoard() {
        Boards boards = Boards.of("@");
        due.is("picture(0)", boards.picture(0), '@');
        due.is("picture(1)", boards.picture(1), 10);
        due.is("picture(2)", boards.picture(2), -1);
    }

    static void theLargestBoard() {
        Boards boards = Boards.of("@      #|" + "        |".repeat(6) + "       $");
        due.is("picture(0)", boards.picture(0), '@');
        due.is("picture(7)", boards.picture(7), '#');
        due.is("picture(8)", boards.picture(8), 10);
        due.is("picture(9)", boards.picture(9), ' ');
        due.is("picture(70)", boards.picture(70), '$');
        due.is("picture(71)", boards.picture(71), 10);
        due.is("picture(72)", boards.picture(72), -1);
    }

    static void eachSign() {
        due.is("picture", Boards.of("# .$*@$").picture(), "# .$*@$|");
        due.is("picture", Boards.of("# .$*+$").picture(), "# .$*+$|");
    }

    static void floorIsBlank() {
        Boards boards = Boards.of("@_ ");
        due.is("picture(1)", boards.picture(1), 32);
        due.is("picture(2)", boards.picture(2), 32);
    }

    static void theRestOfAShortRowIsBlank() {
        Boards boards = Boards.of("@|###|");
        due.is("picture(1)", boards.picture(1), 32);
        due.is("picture(2)", boards.picture(2), 32);
        due.is("picture(3)", boards.picture(3), 10);
    }

    static void byte10IsBehindEachRow() {
        Boards boards = Boards.of("@|#|$");
        due.is("picture(1)", boards.picture(1), 10);
        due.is("picture(3)", boards.picture(3), 10);
        due.is("picture(5), behind the last one as well", boards.picture(5), 10);
        due.is("picture(6)", boards.picture(6), -1);
    }

    static void asItIsBehindMoves() {
        Boards boards = Boards.of("@* .$");
        due.is("move(0)", boards.move(0), 2);
        due.is("picture", boards.picture(), " +$.$|");
        due.is("move(0)", boards.move(0), 2);
        due.is("picture", boards.picture(), " .@*$|");
        due.is("undo()", boards.undo(), 2);
        due.is("undo()", boards.undo(), 2);
        due.is("picture", boards.picture(), "@* .$|");
    }

    static void readAgainItIsTheSame() {
        Boards boards = Boards.of("#######|#.@$*_#|#$|####");
        String first = boards.picture();
        due.is("read()", boards.read(first), 3);
        due.is("picture", boards.picture(), first);
    }
}
