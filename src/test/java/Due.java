/** What the tests share: it compares answers with what is due, and writes texts into an object. */
final class Due {
    static final long NO_CELL = -1001;
    static final long NO_BOARD = -1002;
    static final long MACHINE_THREW = -1003;

    private final String name;
    private int right;
    private int wrong;

    Due(String name) {
        this.name = name;
    }

    void is(String call, long got, long want) {
        if (got == want) {
            right++;
            return;
        }
        wrong++;
        System.out.println(name + ": " + call + " answered " + got + ", due is " + want);
    }

    void is(String call, boolean got, boolean want) {
        is(call, got ? 1 : 0, want ? 1 : 0);
    }

    void is(String call, String got, String want) {
        is(call + " (" + got + " for " + want + ")", got.equals(want) ? 1 : 0, 1);
    }

    void end() {
        System.out.println(name + ": " + right + " as due, " + wrong + " not");
        if (wrong > 0 || right == 0) {
            System.exit(1);
        }
    }

    static void write(PushBoards boards, String text) {
        for (int i = 0; i < text.length(); i++) {
            if (!boards.unit(text.charAt(i))) {
                throw new AssertionError("unit refused " + text.charAt(i));
            }
        }
    }

    static int read(PushBoards boards, String picture) {
        write(boards, picture);
        return boards.read();
    }

    static int row(PushBoards boards, String moves) {
        write(boards, moves);
        return boards.row();
    }

    static PushBoards board(String picture) {
        PushBoards boards = new PushBoards();
        if (read(boards, picture) < 0) {
            throw new AssertionError("not a board: " + picture);
        }
        return boards;
    }

    /** The picture, with | behind each row. */
    static String picture(PushBoards boards) {
        StringBuilder all = new StringBuilder();
        for (int i = 0; boards.picture(i) >= 0; i++) {
            int unit = boards.picture(i);
            all.append(unit == 10 ? '|' : (char) unit);
        }
        return all.toString();
    }

    static String letters(PushBoards boards) {
        StringBuilder all = new StringBuilder();
        for (int i = 0; boards.letter(i) >= 0; i++) {
            all.append((char) boards.letter(i));
        }
        return all.toString();
    }

    static long move(PushBoards boards, int way) {
        try {
            return boards.move(way);
        } catch (ArrayIndexOutOfBoundsException e) {
            return thrown(e);
        } catch (IllegalStateException e) {
            return NO_BOARD;
        }
    }

    static long way(PushBoards boards, int x, int y) {
        try {
            return boards.way(x, y);
        } catch (ArrayIndexOutOfBoundsException e) {
            return thrown(e);
        }
    }

    static long dead(PushBoards boards, int x, int y) {
        try {
            return boards.dead(x, y) ? 1 : 0;
        } catch (ArrayIndexOutOfBoundsException e) {
            return thrown(e);
        }
    }

    static long pushes(PushBoards boards, int x, int y, int x2, int y2) {
        try {
            return boards.pushes(x, y, x2, y2);
        } catch (ArrayIndexOutOfBoundsException e) {
            return thrown(e);
        }
    }

    /** The class throws by itself; what the machine throws is told apart by its text. */
    private static long thrown(ArrayIndexOutOfBoundsException e) {
        boolean byMachine = e.getMessage() != null && e.getMessage().startsWith("Index ");
        return byMachine ? MACHINE_THREW : NO_CELL;
    }

    static String times(String text, int count) {
        return text.repeat(count);
    }
}
