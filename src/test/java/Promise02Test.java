/** Promise 2: unit. */
public final class Promise02Test {
    private static final Due due = new Due("promise 2, unit");
    private static final int MOST = 160;

    public static void main(String[] args) {
        due.runCases(Promise02Test.class);
    }

    static void aByteTooSmall() {
        Boards boards = new Boards();
        for (int u : Boards.TOO_SMALL) {
            due.is("unit(" + u + ")", boards.unit(u), false);
        }
    }

    static void aByteTooLarge() {
        Boards boards = new Boards();
        for (int u : new int[] {256, 257, 1000, Integer.MAX_VALUE}) {
            due.is("unit(" + u + ")", boards.unit(u), false);
        }
    }

    static void theLeastByte() {
        Boards boards = new Boards();
        due.is("unit(0)", boards.unit(0), true);
        due.is("it is in the text", boards.read(), -1);
    }

    static void theGreatestByte() {
        Boards boards = new Boards();
        due.is("unit(255)", boards.unit(255), true);
        due.is("it is in the text", boards.read(), -1);
    }

    static void everyByteBetween() {
        Boards boards = new Boards();
        for (int u = 0; u < 256; u++) {
            due.is("unit(" + u + ")", boards.unit(u), true);
            if (u % 100 == 99) {
                boards.read();
            }
        }
    }

    static void aByteComesBehindTheOthers() {
        Boards boards = new Boards();
        boards.unit('@');
        boards.unit('$');
        boards.unit('.');
        due.is("read()", boards.read(), 1);
        due.is("picture", boards.picture(), "@$.|");
    }

    /** 36 is a box: a byte that is cut to eight bits would come in as one. */
    static void aRefusedByteIsNotInTheText() {
        Boards boards = new Boards();
        boards.unit('@');
        due.is("unit(36 + 256)", boards.unit(36 + 256), false);
        due.is("unit(36 - 256)", boards.unit(36 - 256), false);
        boards.unit('_');
        due.is("read()", boards.read(), 0);
        due.is("told(0)", boards.told(0), 2);
    }

    static void the160thByte() {
        Boards boards = Boards.of("@ ");
        fill(boards, MOST - 1);
        due.is("the 160th", boards.unit('l'), true);
        due.is("it is in the text", boards.row(), MOST);
    }

    static void the161stByte() {
        Boards boards = Boards.of("@ ");
        fill(boards, MOST);
        due.is("the 161st", boards.unit('r'), false);
        due.is("the 162nd", boards.unit('r'), false);
        due.is("it is not in the text", boards.row(), MOST);
        due.is("told(5)", boards.told(5), MOST);
    }

    static void aWrongByteWhenThereAre160() {
        Boards boards = new Boards();
        fill(boards, MOST);
        due.is("unit(-1)", boards.unit(-1), false);
        due.is("unit(256)", boards.unit(256), false);
    }

    static void roomAgainBehindRead() {
        Boards boards = new Boards();
        fill(boards, MOST);
        due.is("read()", boards.read(), -1);
        due.is("fill again", fill(boards, MOST), MOST);
        due.is("the 161st", boards.unit('r'), false);
    }

    static void roomAgainBehindRow() {
        Boards boards = new Boards();
        fill(boards, MOST);
        due.is("row()", boards.row(), -1);
        due.is("fill again", fill(boards, MOST), MOST);
        due.is("the 161st", boards.unit('r'), false);
    }

    /** Writes r and l by turns; how many were taken. */
    private static int fill(Boards boards, int count) {
        int taken = 0;
        for (int i = 0; i < count; i++) {
            taken += boards.unit(i % 2 == 0 ? 'r' : 'l') ? 1 : 0;
        }
        return taken;
    }
}
