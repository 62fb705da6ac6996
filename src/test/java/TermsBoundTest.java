/** Terms: the bound. */
public final class TermsBoundTest {
    private static final Due due = new Due("terms, the bound");

    public static void main(String[] args) {
        due.runCases(TermsBoundTest.class);
    }

    private static void is(String picture, int bound) {
        due.is(picture + " bound()", Boards.of(picture).bound(), bound);
    }

    static void boxesDoNotHinderOneAnother() {
        is("@$$$.  .", 6);
        is("@$$.", 1);
    }

    static void thePersonCanGoThroughBoxes() {
        is("@.$ ", 1);
        is("$$$$|$@$.|$$$$|    ", 1);
    }

    /** The person's room has no way out, and that does not matter. */
    static void thePersonCanBeAnywhere() {
        is("@#   |###$ |  #. |  #  ", 1);
    }

    static void againstTheWayThereIsAWall() {
        is("@#$.", -1);
        is("@.$#", -1);
    }

    static void againstTheWayThereIsTheOutside() {
        is("$.@", -1);
        is("@.$", -1);
        is("$|.|@", -1);
        is("@|.|$", -1);
    }

    /** Nine steps, not five: the box must be pushed round the wall, from floor. */
    static void roundAWall() {
        is("       |@$  #  |    #. |    #  |       |       ", 9);
    }

    static void eachGoalOneBox() {
        is("@$..  $ ", 1 + 3);
    }

    static void noBoxForTwoGoals() {
        is("$     |      | @$ ..|      ", -1);
    }

    /** Where the nearest pair goes first, the other one is farther, or can't come at all. */
    static void theSumIsLeast() {
        is("@    |     |$    |     |.$ . |     |     ", 4);
        is("@$ .$  .", 2 + 3);
    }

    /** Four lanes with two boxes and two goals each: 5, 5, 2 and 6. */
    static void theSumIsLeastInEachOfFourLanes() {
        is("@$ .$  .|########|.  $. $_|########|_$. .$ _|########|_$$ .. _", 5 + 5 + 2 + 6);
    }

    /** The box nearest to the first goal is the only one that is one step from the second. */
    static void theSumIsLeastWithABoxMore() {
        is("@. $.| #$$ | #   ", 2 + 1);
    }

    static void theSumIsLeastWithThreeGoals() {
        is("@.    | $# $ |.. $$ ", 1 + 2 + 4);
        is("@$ .|$  $|. $.", 1 + 1 + 1);
    }

    /** As many boxes as goals, but one lane has a goal too many, and another one a box. */
    static void aLaneHasAGoalTooMany() {
        is("@$ .$  .|########|.  $. .|########|_$. $$ _", -1);
    }

    static void boxesAndGoalsByTurns() {
        is("@$.$.$. ", 3);
        is(".$.$.$ @", 3);
    }

    static void aGoalAtTheFirstCell() {
        is(".$@", 1);
        is(".|$|@", 1);
    }

    static void aGoalAtTheLastCell() {
        is("@       ||||||       $|       .", 1);
    }

    static void aBoxMoreThanGoals() {
        is("@$ $. ", 1);
        is("$     |@ $ . |      ", 2);
    }

    static void noGoals() {
        is("@$$", 0);
    }

    static void noBoxCanCome() {
        is("$   |    |  @.|    ", -1);
        is("@$ #.# ", -1);
    }

    static void oneOfTwoGoalsIsWalledIn() {
        is("@$.$ #.#", -1);
    }
}
