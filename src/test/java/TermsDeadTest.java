/** Terms: places that are dead or live. */
public final class TermsDeadTest {
    private static final Due due = new Due("terms, dead");

    public static void main(String[] args) {
        due.runCases(TermsDeadTest.class);
    }

    /** Row by row 1 dead, 0 live or a wall: worked out by hand from the pulls. */
    private static void all(String picture, String... dead) {
        Boards boards = Boards.of(picture);
        for (int y = 0; y < dead.length; y++) {
            for (int x = 0; x < dead[y].length(); x++) {
                due.is(picture + " dead(" + x + ", " + y + ")", boards.dead(x, y), dead[y].charAt(x) - '0');
            }
        }
    }

    static void aGoalInACornerIsLive() {
        all(".  |   |@ $", "001", "001", "111");
    }

    static void aGoalAllWalledInIsLive() {
        all("###|#*#|##@", "000", "000", "001");
    }

    static void aGoalUnderABoxOrThePersonIsLive() {
        all("*@", "01");
        all("+$", "01");
    }

    static void noGoalNoLivePlace() {
        all("@  | $ |   ", "111", "111", "111");
    }

    /** The next cell in the way is live, but the one against it is outside or a wall. */
    static void noFloorToPushFrom() {
        all(" .$@", "1001");
        all("# .$@#", "010010");
    }

    static void floorToPushFrom() {
        all("@$.", "100");
        all(".$@", "001");
        all("@|$|.", "1", "0", "0");
        all(".|$|@", "0", "0", "1");
    }

    static void liveThroughAnotherLivePlace() {
        all("@$    .", "1000000");
        all("@      |       |.     $|       |       ", "1111111", "0000001", "0000001", "0000001", "1111111");
    }

    static void roundACorner() {
        all("@   |    |#$##|#.##|####", "1111", "1001", "0000", "0000", "0000");
    }

    static void aGoalInTheMiddleOfThree() {
        all("#####|#   #|# .$#|#@  #|#####", "00000", "01110", "01010", "01110", "00000");
    }

    static void twoMoreCellsToPullOver() {
        all("@     |      |  .   |     $", "111111", "100001", "100001", "111111");
    }

    static void aLane() {
        all("@$.  ", "10001");
        all("@$$.#", "10000");
    }

    /** Were it the only one: boxes in between do not hinder. */
    static void otherBoxesDoNotHinder() {
        all("@$$$$.", "100000");
        all("@$**$ $", "1000001");
    }

    /** The person anywhere: a room it can't leave does not hinder. */
    static void thePersonDoesNotHinder() {
        all("@#  $.", "101000");
        all("   @$.", "100000");
    }

    static void twoGoals() {
        all("@$.#.$ ", "1000001");
    }

    static void wallsAreNotDead() {
        all("@ # .$", "110101");
    }
}
