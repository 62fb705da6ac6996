/** Terms: the board, what is outside, a move, done. */
public final class TermsBoardTest {
    private static final Due due = new Due("terms, the board");
    /** Narrower than eight by eight, so that there is room beside it where it is kept. */
    private static final String SMALL = "@  |   |   ";

    public static void main(String[] args) {
        due.runCases(TermsBoardTest.class);
    }

    /** The person can't go from a corner in both ways that lead out. */
    private static void cantLeave(String picture, int way, int otherWay) {
        Boards boards = Boards.of(picture);
        due.is(picture + " move(" + way + ")", boards.move(way), 0);
        due.is(picture + " move(" + otherWay + ")", boards.move(otherWay), 0);
        due.is("told(5)", boards.told(5), 0);
    }

    static void cellsAreCountedByRows() {
        Boards boards = Boards.of("@  |   ");
        int[] ways = {0, 0, 1, 2, 2, 3};
        int[] cells = {1, 2, 5, 4, 3, 0};
        for (int i = 0; i < ways.length; i++) {
            due.is("move(" + ways[i] + ")", boards.move(ways[i]), 1);
            due.is("told(7)", boards.told(7), cells[i]);
        }
    }

    static void eightByEight() {
        Boards boards = Boards.of("@       ||||||||");
        due.is("row()", boards.row("7r7d"), 14);
        due.is("told(7)", boards.told(7), 63);
    }

    static void oneByOne() {
        Boards boards = Boards.of("@");
        for (int way = 0; way < 4; way++) {
            due.is("move(" + way + ")", boards.move(way), 0);
        }
    }

    static void outsideIsWallForThePersonOnASmallBoard() {
        cantLeave("@  |   |   ", 2, 3);
        cantLeave("  @|   |   ", 0, 3);
        cantLeave("   |   |@  ", 2, 1);
        cantLeave("   |   |  @", 0, 1);
    }

    static void outsideIsWallOnBoardsOfEverySize() {
        for (int w = 1; w <= 8; w++) {
            for (int h = 1; h <= 8; h++) {
                String line = " ".repeat(w - 1);
                String rows = (line + " |").repeat(h - 1);
                Boards low = Boards.of(rows + line + "@");
                due.is(w + " by " + h + " move(0)", low.move(0), 0);
                due.is(w + " by " + h + " move(1)", low.move(1), 0);
                due.is(w + " by " + h + " reach()", low.reach(), w * h);
                Boards high = Boards.of("@" + line + "|" + rows);
                due.is(w + " by " + h + " move(2)", high.move(2), 0);
                due.is(w + " by " + h + " move(3)", high.move(3), 0);
                due.is(w + " by " + h + " way", high.way(w - 1, h - 1), w + h - 2);
            }
        }
    }

    static void outsideIsWallForThePersonOnTheLargestBoard() {
        cantLeave("@       ||||||||", 2, 3);
        cantLeave("       @||||||||", 0, 3);
        cantLeave("        |||||||@", 2, 1);
        cantLeave("        |||||||       @", 0, 1);
    }

    /** At the edge of eight a step further would be the next row's first cell. */
    static void outsideIsWallForThePersonBetweenRows() {
        due.is("right", Boards.of("        |       @|        ").move(0), 0);
        due.is("left", Boards.of("        |@       |        ").move(2), 0);
        due.is("right, three wide", Boards.of("   |  @|   ").move(0), 0);
        due.is("left, three wide", Boards.of("   |@  |   ").move(2), 0);
    }

    static void outsideIsWallForABoxOnASmallBoard() {
        due.is("right", Boards.of("   | @$|   ").move(0), 0);
        due.is("down", Boards.of("   | @ | $ ").move(1), 0);
        due.is("left", Boards.of("   |$@ |   ").move(2), 0);
        due.is("up", Boards.of(" $ | @ |   ").move(3), 0);
    }

    static void outsideIsWallForABoxOnTheLargestBoard() {
        due.is("right", Boards.of("        |      @$|||||||").move(0), 0);
        due.is("down", Boards.of("        ||||||@|$").move(1), 0);
        due.is("left", Boards.of("        |$@||||||").move(2), 0);
        due.is("up", Boards.of("$       |@|||||||").move(3), 0);
    }

    static void outsideIsWallForTheReach() {
        due.is("reach()", Boards.of(SMALL).reach(), 9);
        due.is("reach()", Boards.of("@##|###|  _").reach(), 1);
    }

    static void outsideIsWallForBoxesThatStandFast() {
        due.is("in a corner", Boards.of("$  |   |.@ ").fast(), 1);
        due.is("at an edge", Boards.of("     |$    |  .  |     | @   ").fast(), 1);
    }

    static void outsideIsWallForStepsOfABox() {
        Boards boards = Boards.of(SMALL);
        due.is("to the right", boards.pushes(0, 1, 1, 1), -1);
        due.is("down", boards.pushes(1, 0, 1, 1), -1);
        due.is("to the left", boards.pushes(2, 1, 1, 1), -1);
        due.is("up", boards.pushes(1, 2, 1, 1), -1);
    }

    static void outsideIsNotLive() {
        Boards boards = Boards.of("@  |.$ |   ");
        due.is("dead(2, 1)", boards.dead(2, 1), 1);
        due.is("dead(1, 1)", boards.dead(1, 1), 0);
        due.is("dead(0, 0)", boards.dead(0, 0), 1);
    }

    static void aMoveToAGoalWithoutABox() {
        due.is("move(0)", Boards.of("@.$").move(0), 1);
    }

    static void aPushOntoAGoal() {
        due.is("move(0)", Boards.of("@$.").move(0), 2);
    }

    static void aPushAgainstABoxOnAGoal() {
        due.is("move(0)", Boards.of("@$* ").move(0), 0);
        due.is("move(0)", Boards.of("@*$ ").move(0), 0);
    }

    static void thePersonStandsBehindTheBoxItPushed() {
        Boards boards = Boards.of("@$ |   ");
        due.is("move(0)", boards.move(0), 2);
        due.is("told(7)", boards.told(7), 1);
        due.is("picture(2)", boards.picture(2), '$');
    }

    static void doneWithEveryGoal() {
        due.is("one of two", Boards.of("@*.$").told(8), 0);
        due.is("both", Boards.of("@**").told(8), 1);
        due.is("both, and a box more", Boards.of("@**$").told(8), 1);
        due.is("no goals", Boards.of("@").told(8), 1);
    }
}
