/** The object under test. It counts its calls: what a 513th one answers is free, so no test may look at it. */
final class Boards {
    static final long NO_INDEX = -1001;
    static final long NO_BOARD = -1002;
    static final long MACHINE_THREW = -1003;
    static final long OTHER_CLASS = -1004;
    static final int CALLS_MOST = 512;
    static final int[] TOO_SMALL = {-1, -2, -64, Integer.MIN_VALUE};

    private final PushBoards boards = new PushBoards();
    private int calls;

    /** A new object that has read a picture. */
    static Boards of(String picture) {
        Boards made = new Boards();
        if (made.read(picture) < 0) {
            throw new AssertionError("not a board: " + picture);
        }
        return made;
    }

    int callsLeft() {
        return CALLS_MOST - calls;
    }

    private PushBoards next() {
        calls++;
        if (calls > CALLS_MOST) {
            throw new AssertionError("a test makes more than " + CALLS_MOST + " calls");
        }
        return boards;
    }

    void write(String text) {
        for (int i = 0; i < text.length(); i++) {
            if (!unit(text.charAt(i))) {
                throw new AssertionError("unit refused byte " + i + " of " + text);
            }
        }
    }

    int read(String picture) {
        write(picture);
        return read();
    }

    int row(String moves) {
        write(moves);
        return row();
    }

    /** The whole picture, with | behind each row. */
    String picture() {
        StringBuilder all = new StringBuilder();
        for (int u = picture(0); u >= 0; u = picture(all.length())) {
            all.append(u == 10 ? '|' : (char) u);
        }
        return all.toString();
    }

    /** All letters. */
    String letters() {
        StringBuilder all = new StringBuilder();
        for (int u = letter(0); u >= 0; u = letter(all.length())) {
            all.append((char) u);
        }
        return all.toString();
    }

    boolean unit(int u) {
        return next().unit(u);
    }

    int read() {
        return next().read();
    }

    int row() {
        return next().row();
    }

    long move(int way) {
        try {
            return next().move(way);
        } catch (ArrayIndexOutOfBoundsException e) {
            return noIndex(e);
        } catch (IllegalStateException e) {
            return e.getClass() == IllegalStateException.class ? NO_BOARD : OTHER_CLASS;
        }
    }

    int undo() {
        return next().undo();
    }

    int told(int what) {
        return next().told(what);
    }

    int picture(int i) {
        return next().picture(i);
    }

    int letter(int i) {
        return next().letter(i);
    }

    int reach() {
        return next().reach();
    }

    long way(int x, int y) {
        try {
            return next().way(x, y);
        } catch (ArrayIndexOutOfBoundsException e) {
            return noIndex(e);
        }
    }

    long dead(int x, int y) {
        try {
            return next().dead(x, y) ? 1 : 0;
        } catch (ArrayIndexOutOfBoundsException e) {
            return noIndex(e);
        }
    }

    int fast() {
        return next().fast();
    }

    boolean stuck() {
        return next().stuck();
    }

    int bound() {
        return next().bound();
    }

    long pushes(int x, int y, int x2, int y2) {
        try {
            return next().pushes(x, y, x2, y2);
        } catch (ArrayIndexOutOfBoundsException e) {
            return noIndex(e);
        }
    }

    int search(int most) {
        return next().search(most);
    }

    int push(int k) {
        return next().push(k);
    }

    int states() {
        return next().states();
    }

    /** The class throws by itself; what the machine throws is told apart by its text. */
    private static long noIndex(ArrayIndexOutOfBoundsException e) {
        if (e.getClass() != ArrayIndexOutOfBoundsException.class) {
            return OTHER_CLASS;
        }
        boolean byMachine = e.getMessage() != null && e.getMessage().startsWith("Index ");
        return byMachine ? MACHINE_THREW : NO_INDEX;
    }
}
