import java.util.Random;

/** Long runs of calls, always the same ones, beside the slow model. */
public final class ModelTest {
    private static final Due due = new Due("beside the model");
    private static final int RUNS = 1500;

    private final Random random;
    private final String name;
    private final Boards boards = new Boards();
    private final PlainBoards plain = new PlainBoards();
    private int calls;

    private ModelTest(int seed) {
        random = new Random(seed);
        name = "run " + seed;
    }

    public static void main(String[] args) {
        for (int seed = 1; seed <= RUNS; seed++) {
            new ModelTest(seed).run();
        }
        due.end();
    }

    private void run() {
        if (random.nextInt(4) > 0) {
            readBoard();
        }
        while (boards.callsLeft() > 0) {
            int kind = random.nextInt(40);
            if (kind == 0) {
                readBoard();
            } else if (kind < 3) {
                doRow();
            } else if (kind < 4) {
                lookAtAll();
            } else {
                callOnce(random.nextInt(17));
            }
        }
    }

    private void is(String call, long got, long want) {
        calls++;
        due.is(name + " call " + calls + ": " + call, got, want);
    }

    private void write(String text) {
        for (int i = 0; i < text.length(); i++) {
            int u = text.charAt(i);
            is("unit(" + u + ")", boards.unit(u) ? 1 : 0, plain.unit(u) ? 1 : 0);
        }
    }

    /** A text and the call that takes it are written only as a whole. */
    private boolean isRoomFor(String text) {
        return boards.callsLeft() > text.length();
    }

    private void readBoard() {
        String picture = randomPicture();
        if (!isRoomFor(picture)) {
            return;
        }
        write(picture);
        is("read()", boards.read(), plain.read());
    }

    private String randomPicture() {
        int w = 1 + random.nextInt(8);
        int h = 1 + random.nextInt(8);
        int wallPart = random.nextInt(4) * 8;
        int boxCount = random.nextInt(random.nextInt(3) == 0 ? 13 : 4);
        char[] cells = new char[w * h];
        for (int i = 0; i < cells.length; i++) {
            boolean edge = i < w || i >= w * h - w || i % w == 0 || i % w == w - 1;
            boolean isWall = random.nextInt(100) < wallPart || edge && wallPart == 8;
            cells[i] = isWall ? '#' : random.nextBoolean() ? ' ' : '_';
        }
        put(cells, 1, "@@");
        put(cells, boxCount, "$$");
        int goals = Math.max(0, boxCount - (random.nextInt(4) == 0 ? random.nextInt(3) : 0));
        put(cells, goals, ".*");
        StringBuilder text = new StringBuilder();
        for (int y = 0; y < h; y++) {
            String line = new String(cells, y * w, w);
            text.append(random.nextInt(3) == 0 ? line.stripTrailing() : line);
            text.append(y == h - 1 && random.nextBoolean() ? "" : random.nextBoolean() ? "|" : "\n");
        }
        if (random.nextInt(6) == 0) {
            int place = random.nextInt(text.length() + 1);
            text.insert(place, (char) (random.nextBoolean() ? "#@$*.+| _".charAt(random.nextInt(9)) : random.nextInt(256)));
        }
        return text.toString();
    }

    /** Puts signs on free cells; a goal may come under a box, or under the person. */
    private void put(char[] cells, int count, String signs) {
        for (int tries = 0, done = 0; tries < 200 && done < count; tries++) {
            int i = random.nextInt(cells.length);
            if (cells[i] == ' ' || cells[i] == '_') {
                cells[i] = signs.charAt(0);
                done++;
            } else if (signs.charAt(0) == '.' && (cells[i] == '$' || cells[i] == '@')) {
                cells[i] = cells[i] == '$' ? '*' : '+';
                done++;
            }
        }
    }

    private void doRow() {
        int length = random.nextInt(8);
        if (random.nextInt(20) == 0) {
            length = random.nextInt(170);
        }
        StringBuilder text = new StringBuilder();
        for (int i = 0; i < length; i++) {
            int kind = random.nextInt(40);
            text.append(kind == 0 ? (char) random.nextInt(256) : kind < 6 ? (char) ('0' + random.nextInt(10))
                : "rdluRDLU".charAt(random.nextInt(8)));
        }
        if (!isRoomFor(text.toString())) {
            return;
        }
        write(text.toString());
        is("row()", boards.row(), plain.row());
    }

    private void lookAtAll() {
        for (int i = -1; i <= (plain.told(0) + 1) * plain.told(1) && boards.callsLeft() > 0; i++) {
            is("picture(" + i + ")", boards.picture(i), plain.picture(i));
        }
    }

    private void callOnce(int which) {
        int n = random.nextInt(12) - 1;
        int x = random.nextInt(9) - (random.nextInt(20) == 0 ? 1 : 0);
        int y = random.nextInt(9) - (random.nextInt(20) == 0 ? 1 : 0);
        if (random.nextInt(4) > 0 && plain.told(0) > 0) {
            x = Math.floorMod(x, plain.told(0));
            y = Math.floorMod(y, plain.told(1));
        }
        int x2 = random.nextInt(9);
        int y2 = random.nextInt(9);
        switch (which) {
            case 0: case 1: case 2: case 3:
                int way = random.nextInt(random.nextInt(10) == 0 ? 6 : 4) - (random.nextInt(20) == 0 ? 1 : 0);
                is("move(" + way + ")", boards.move(way), plainMove(way));
                break;
            case 4:
                is("undo()", boards.undo(), plain.undo());
                break;
            case 5:
                is("told(" + n + ")", boards.told(n), plain.told(n));
                break;
            case 6:
                is("letter(" + n + ")", boards.letter(n), plain.letter(n));
                break;
            case 7:
                is("reach()", boards.reach(), plain.reach());
                break;
            case 8:
                is("way(" + x + ", " + y + ")", boards.way(x, y), plainCell(0, x, y, 0, 0));
                break;
            case 9:
                is("dead(" + x + ", " + y + ")", boards.dead(x, y), plainCell(1, x, y, 0, 0));
                break;
            case 10:
                is("fast()", boards.fast(), plain.fast());
                break;
            case 11:
                is("stuck()", boards.stuck() ? 1 : 0, plain.stuck() ? 1 : 0);
                break;
            case 12:
                if (plain.told(2) < 9 || random.nextInt(5) == 0) {
                    is("bound()", boards.bound(), plain.bound());
                }
                break;
            case 13:
                is("pushes(" + x + ", " + y + ", " + x2 + ", " + y2 + ")", boards.pushes(x, y, x2, y2),
                    plainCell(2, x, y, x2, y2));
                break;
            case 14:
                doSearch();
                break;
            case 15:
                is("push(" + n + ")", boards.push(n), plain.push(n));
                break;
            default:
                is("states()", boards.states(), plain.states());
                break;
        }
    }

    private void doSearch() {
        int most = random.nextInt(3) == 0 ? random.nextInt(6) - 1 : 1 + random.nextInt(random.nextInt(20) == 0 ? 400 : 60);
        is("search(" + most + ")", boards.search(most), plain.search(most));
        for (int k = 0; k < 5 && boards.callsLeft() > 1; k++) {
            is("push(" + k + ")", boards.push(k), plain.push(k));
        }
        if (boards.callsLeft() == 0) {
            return;
        }
        is("states()", boards.states(), plain.states());
    }

    private long plainMove(int way) {
        try {
            return plain.move(way);
        } catch (ArrayIndexOutOfBoundsException e) {
            return Boards.NO_INDEX;
        } catch (IllegalStateException e) {
            return Boards.NO_BOARD;
        }
    }

    private long plainCell(int which, int x, int y, int x2, int y2) {
        try {
            return which == 0 ? plain.way(x, y) : which == 1 ? (plain.dead(x, y) ? 1 : 0) : plain.pushes(x, y, x2, y2);
        } catch (ArrayIndexOutOfBoundsException e) {
            return Boards.NO_INDEX;
        }
    }
}
