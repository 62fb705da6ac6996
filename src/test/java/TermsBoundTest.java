/** Terms: the bound. */
public final class TermsBoundTest {
    private static final Due due = new Due("terms, the bound");

    public static void main(String[] args) {
        due.runCases(TermsBoundTest.class);
    }

    private static void is(String picture, int bound) {
        due.is(picture + " bound()", Boards.of(picture).bound(), bound);
    }

    static void boxesDoNotHinderOneAnother() {
        is("@$$$.  .", 6);
        is("@$$.", 1);
    }

    static void thePersonCanGoThroughBoxes() {
        is("@.$ ", 1);
        is("$$$$|$@$.|$$$$|    ", 1);
    }

    /** The person's room has no way out, and that does not matter. */
    static void thePersonCanBeAnywhere() {
        is("@#   |###$ |  #. |  #  ", 1);
    }

    static void againstTheWayThereIsAWall() {
        is("@#$.", -1);
        is("@.$#", -1);
    }

    static void againstTheWayThereIsTheOutside() {
        is("$.@", -1);
        is("@.$", -1);
        is("$|.|@", -1);
        is("@|.|$", -1);
    }

    /** Nine steps, not five: the box must be pushed round the wall, from floor. */
    static void roundAWall() {
        is("       |@$  #  |    #. |    #  |       |       ", 9);
    }

    static void eachGoalOneBox() {
        is("@$..  $ ", 1 + 3);
    }

    static void noBoxForTwoGoals() {
        is("$     |      | @$ ..|      ", -1);
    }

    /** Where the nearest pair goes first, the other one is farther, or can't come at all. */
    static void theSumIsLeast() {
        is("@    |     |$    |     |.$ . |     |     ", 4);
        is("@$ .$  .", 2 + 3);
    }

    static void aBoxMoreThanGoals() {
        is("@$ $. ", 1);
        is("$     |@ $ . |      ", 2);
    }

    static void noGoals() {
        is("@$$", 0);
    }

    static void noBoxCanCome() {
        is("$   |    |  @.|    ", -1);
        is("@$ #.# ", -1);
    }

    static void oneOfTwoGoalsIsWalledIn() {
        is("@$.$ #.#", -1);
    }
}
