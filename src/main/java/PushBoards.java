import java.util.Arrays;

/**
 * Pushing puzzles: a person on a board pushes boxes to goals.
 *
 * A set of cells is a long: bit 8 y + x is the cell (x, y), whatever the board's width. So a look at
 * all cells at once is a shift and a mask, and no call but a long search makes an object.
 */
public final class PushBoards {
    private static final int SIDE = 8;
    private static final int CELLS = 64;
    private static final int TEXT_MOST = 160;
    private static final int PIECES_MOST = 12;
    private static final int STATES_MOST = 10000;

    private static final int WAYS = 4;
    private static final int RIGHT = 0;
    private static final int DOWN = 1;
    private static final int LEFT = 2;
    private static final int UP = 3;

    private static final long FIRST_COLUMN = 0x0101010101010101L;
    private static final long LAST_COLUMN = 0x8080808080808080L;

    private static final int ROW_END = 10;
    private static final int NOT_A_BOARD = -200;

    private final int[] text = new int[TEXT_MOST];
    private int textLength;
    private final Picture drawn = new Picture();
    private final Board board = new Board();
    private final Log log = new Log();
    private final Matching matching = new Matching();
    private final Search latest = new Search();

    public PushBoards() {
    }

    public boolean unit(int u) {
        if (u < 0 || u > 255 || textLength >= TEXT_MOST) {
            return false;
        }
        text[textLength] = u;
        textLength++;
        return true;
    }

    public int read() {
        int length = takeText();
        drawn.clear();
        for (int place = 0; place < length; place++) {
            if (!drawn.takes(text[place])) {
                return -1 - place;
            }
        }
        if (!drawn.isBoard()) {
            return NOT_A_BOARD;
        }
        board.setUp(drawn);
        log.clear();
        return Long.bitCount(board.boxes);
    }

    public int row() {
        int length = takeText();
        int done = 0;
        int digit = 0;
        for (int place = 0; place < length; place++) {
            int u = text[place];
            if (digit == 0 && u >= '2' && u <= '9') {
                digit = u - '0';
                continue;
            }
            int times = Math.max(digit, 1);
            int went = goOften(wayOfLetter(u), times);
            if (went < times) {
                return -1 - place;
            }
            done += went;
            digit = 0;
        }
        return digit == 0 ? done : -1 - length;
    }

    public int move(int way) throws ArrayIndexOutOfBoundsException, IllegalStateException {
        if (!board.isThere()) {
            throw new IllegalStateException("there is no board");
        }
        if (way < 0 || way >= WAYS) {
            throw new ArrayIndexOutOfBoundsException("there is no such way");
        }
        return goOnce(way);
    }

    public int undo() {
        if (log.kept == 0) {
            return 0;
        }
        int mark = log.takeLast();
        boolean pushed = Log.isPush(mark);
        board.goBack(Log.wayOf(mark), pushed);
        return pushed ? 2 : 1;
    }

    public int told(int what) {
        switch (what) {
            case 0:
                return board.width;
            case 1:
                return board.height;
            case 2:
                return Long.bitCount(board.boxes);
            case 3:
                return Long.bitCount(board.goals);
            case 4:
                return Long.bitCount(board.boxes & board.goals);
            case 5:
                return log.moves;
            case 6:
                return log.pushed;
            case 7:
                return board.isThere() ? board.cellOf(board.person) : -1;
            case 8:
                return board.isThere() && board.isDone(board.boxes) ? 1 : 0;
            default:
                return -1;
        }
    }

    public int picture(int i) {
        int line = board.width + 1;
        if (i < 0 || i >= line * board.height) {
            return -1;
        }
        int x = i % line;
        return x == board.width ? ROW_END : board.signAt(cellAt(x, i / line));
    }

    public int letter(int i) {
        return i < 0 || i >= log.kept ? -1 : log.letterAt(i);
    }

    public int reach() {
        return Long.bitCount(board.reachOf(board.person, board.boxes));
    }

    public int way(int x, int y) throws ArrayIndexOutOfBoundsException {
        return board.stepsTo(existing(x, y));
    }

    public boolean dead(int x, int y) throws ArrayIndexOutOfBoundsException {
        return (existing(x, y) & board.floor & ~board.live) != 0;
    }

    public int fast() {
        return Long.bitCount(board.standing(board.boxes));
    }

    public boolean stuck() {
        return board.isStuck(board.boxes);
    }

    public int bound() {
        int boxCount = 0;
        int goalCount = 0;
        for (int box = 0; box < CELLS; box++) {
            if (!has(board.boxes, box)) {
                continue;
            }
            board.fillBoxSteps(1L << box);
            goalCount = 0;
            for (int goal = 0; goal < CELLS; goal++) {
                if (has(board.goals, goal)) {
                    matching.setCost(goalCount, boxCount, board.boxSteps[goal]);
                    goalCount++;
                }
            }
            boxCount++;
        }
        return matching.leastSum(goalCount, boxCount);
    }

    public int pushes(int x, int y, int x2, int y2) throws ArrayIndexOutOfBoundsException {
        long from = existing(x, y);
        long to = existing(x2, y2);
        board.fillBoxSteps(from);
        return board.boxSteps[spotOf(to)];
    }

    public int search(int most) {
        if (most < 1 || most > STATES_MOST || !board.isThere()) {
            return -3;
        }
        return latest.run(board, most);
    }

    public int push(int k) {
        return k < 0 || k >= latest.length ? -1 : latest.pushAt(k);
    }

    public int states() {
        return latest.count;
    }

    private int takeText() {
        int length = textLength;
        textLength = 0;
        return length;
    }

    /** How many of so many moves in a way were done; none when there is no such way. */
    private int goOften(int way, int times) {
        for (int done = 0; done < times; done++) {
            if (way < 0 || goOnce(way) == 0) {
                return done;
            }
        }
        return times;
    }

    private int goOnce(int way) {
        int kind = board.isThere() ? board.go(way) : 0;
        if (kind != 0) {
            log.add(way, kind == 2);
        }
        return kind;
    }

    private long existing(int x, int y) {
        if (x < 0 || x >= board.width || y < 0 || y >= board.height) {
            throw new ArrayIndexOutOfBoundsException("there is no such cell");
        }
        return cellAt(x, y);
    }

    private static int wayOfLetter(int u) {
        switch (u) {
            case 'r':
            case 'R':
                return RIGHT;
            case 'd':
            case 'D':
                return DOWN;
            case 'l':
            case 'L':
                return LEFT;
            case 'u':
            case 'U':
                return UP;
            default:
                return -1;
        }
    }

    private static long cellAt(int x, int y) {
        return 1L << (SIDE * y + x);
    }

    /** The bit's number of the lowest cell of a set; 0 .. 63 whatever the set is. */
    private static int spotOf(long cell) {
        return Long.bitCount((cell & -cell) - 1) & (CELLS - 1);
    }

    private static boolean has(long cells, int spot) {
        return (cells >>> spot & 1L) != 0;
    }

    private static int against(int way) {
        return way ^ 2;
    }

    /** All cells one further in a way; those that would leave the eight by eight are dropped. */
    private static long shifted(long cells, int way) {
        switch (way) {
            case RIGHT:
                return (cells & ~LAST_COLUMN) << 1;
            case DOWN:
                return cells << SIDE;
            case LEFT:
                return (cells & ~FIRST_COLUMN) >>> 1;
            default:
                return cells >>> SIDE;
        }
    }

    /** What a text draws, kept apart from the board until all of it is known to be right. */
    private static final class Picture {
        int width;
        int height;
        long walls;
        long goals;
        long boxes;
        long person;
        private int x;
        private int endedRows;

        void clear() {
            width = 0;
            height = 0;
            walls = 0;
            goals = 0;
            boxes = 0;
            person = 0;
            x = 0;
            endedRows = 0;
        }

        /** Takes the next byte in; false when it can't be there. */
        boolean takes(int u) {
            if (endedRows >= SIDE) {
                return false;
            }
            height = endedRows + 1;
            if (u == ROW_END || u == '|') {
                endedRows++;
                x = 0;
                return true;
            }
            if (x >= SIDE || !takesSign(u, cellAt(x, endedRows))) {
                return false;
            }
            x++;
            width = Math.max(width, x);
            return true;
        }

        boolean isBoard() {
            return person != 0 && Long.bitCount(boxes) >= Long.bitCount(goals);
        }

        private boolean takesSign(int u, long cell) {
            switch (u) {
                case '#':
                    walls |= cell;
                    return true;
                case ' ':
                case '_':
                    return true;
                case '.':
                    return takesGoal(cell);
                case '$':
                    return takesBox(cell);
                case '*':
                    return takesGoal(cell) && takesBox(cell);
                case '@':
                    return takesPerson(cell);
                case '+':
                    return takesGoal(cell) && takesPerson(cell);
                default:
                    return false;
            }
        }

        private boolean takesGoal(long cell) {
            goals |= cell;
            return Long.bitCount(goals) <= PIECES_MOST;
        }

        private boolean takesBox(long cell) {
            boxes |= cell;
            return Long.bitCount(boxes) <= PIECES_MOST;
        }

        private boolean takesPerson(long cell) {
            boolean first = person == 0;
            person |= cell;
            return first;
        }
    }

    /** The board as it is now; what the search asks takes the boxes as an argument. */
    private static final class Board {
        int width;
        int height;
        long floor;
        long goals;
        long live;
        long boxes;
        long person;
        /** For each bit's number what fillBoxSteps() wrote last. */
        final int[] boxSteps = new int[CELLS];
        private long liveBesideInRow;
        private long liveBesideInColumn;

        void setUp(Picture drawn) {
            width = drawn.width;
            height = drawn.height;
            floor = rectangle(width, height) & ~drawn.walls;
            goals = drawn.goals;
            boxes = drawn.boxes;
            person = drawn.person;
            live = liveCells();
            liveBesideInRow = shifted(live, RIGHT) | shifted(live, LEFT);
            liveBesideInColumn = shifted(live, DOWN) | shifted(live, UP);
        }

        boolean isThere() {
            return person != 0;
        }

        boolean isDone(long boxesThen) {
            return (goals & ~boxesThen) == 0;
        }

        int cellOf(long cell) {
            int spot = spotOf(cell);
            return width * (spot / SIDE) + spot % SIDE;
        }

        int signAt(long cell) {
            boolean goal = (cell & goals) != 0;
            if ((cell & floor) == 0) {
                return '#';
            }
            if ((cell & boxes) != 0) {
                return goal ? '*' : '$';
            }
            if ((cell & person) != 0) {
                return goal ? '+' : '@';
            }
            return goal ? '.' : ' ';
        }

        /** One move: 0 it can't be done, 1 the person went, 2 a push. */
        int go(int way) {
            long next = shifted(person, way) & floor;
            if (next == 0) {
                return 0;
            }
            if ((next & boxes) == 0) {
                person = next;
                return 1;
            }
            long behind = shifted(next, way) & floor & ~boxes;
            if (behind == 0) {
                return 0;
            }
            boxes ^= next | behind;
            person = next;
            return 2;
        }

        void goBack(int way, boolean pushed) {
            if (pushed) {
                boxes ^= person | shifted(person, way);
            }
            person = shifted(person, against(way));
        }

        long reachOf(long start, long boxesThen) {
            long free = floor & ~boxesThen;
            long come = start;
            for (int round = 0; round < CELLS; round++) {
                long wider = come;
                for (int way = 0; way < WAYS; way++) {
                    wider |= shifted(wider, way) & free;
                }
                if (wider == come) {
                    break;
                }
                come = wider;
            }
            return come;
        }

        int stepsTo(long cell) {
            long free = floor & ~boxes;
            long come = person;
            for (int count = 0; count < CELLS; count++) {
                if ((come & cell) != 0) {
                    return count;
                }
                long next = 0;
                for (int way = 0; way < WAYS; way++) {
                    next |= shifted(come, way) & free;
                }
                come |= next;
            }
            return -1;
        }

        /** Writes for each cell the fewest steps of a box to it, -1 where it can't come. */
        void fillBoxSteps(long from) {
            Arrays.fill(boxSteps, -1);
            long come = 0;
            long wave = from & floor;
            for (int count = 0; count < CELLS && wave != 0; count++) {
                long rest = wave;
                for (int taken = 0; taken < CELLS && rest != 0; taken++) {
                    boxSteps[spotOf(rest)] = count;
                    rest &= rest - 1;
                }
                come |= wave;
                long next = 0;
                for (int way = 0; way < WAYS; way++) {
                    next |= shifted(wave & shifted(floor, way), way);
                }
                wave = next & floor & ~come;
            }
        }

        /** The boxes that stand fast. All that can go in a round go at once: none of them holds another. */
        long standing(long boxesThen) {
            long fastOnes = boxesThen;
            for (int round = 0; round <= PIECES_MOST; round++) {
                long open = floor & ~fastOnes;
                long inRow = shifted(open, RIGHT) & shifted(open, LEFT) & liveBesideInRow;
                long inColumn = shifted(open, DOWN) & shifted(open, UP) & liveBesideInColumn;
                long rest = fastOnes & ~(inRow | inColumn);
                if (rest == fastOnes) {
                    break;
                }
                fastOnes = rest;
            }
            return fastOnes;
        }

        boolean isStuck(long boxesThen) {
            return (standing(boxesThen) & ~goals) != 0;
        }

        private long liveCells() {
            long known = goals;
            for (int round = 0; round < CELLS; round++) {
                long wider = known;
                for (int way = 0; way < WAYS; way++) {
                    wider |= floor & shifted(wider, against(way)) & shifted(floor, way);
                }
                if (wider == known) {
                    break;
                }
                known = wider;
            }
            return known;
        }

        private static long rectangle(int width, int height) {
            long cells = 0;
            for (int y = 0; y < height; y++) {
                for (int x = 0; x < width; x++) {
                    cells |= cellAt(x, y);
                }
            }
            return cells;
        }
    }

    /** The latest moves, in a ring: the oldest one makes room for the newest. */
    private static final class Log {
        private static final int MOST = 500;
        private static final int PUSH = 4;
        private static final String LETTERS = "rdluRDLU";

        int kept;
        int moves;
        int pushed;
        private final int[] marks = new int[MOST];
        private int end;

        static boolean isPush(int mark) {
            return mark >= PUSH;
        }

        static int wayOf(int mark) {
            return mark & (PUSH - 1);
        }

        void clear() {
            kept = 0;
            moves = 0;
            pushed = 0;
            end = 0;
        }

        void add(int way, boolean withPush) {
            marks[end] = withPush ? way + PUSH : way;
            end = (end + 1) % MOST;
            kept = Math.min(kept + 1, MOST);
            moves++;
            pushed += withPush ? 1 : 0;
        }

        /** Asked only while something is kept. */
        int takeLast() {
            end = (end + MOST - 1) % MOST;
            int mark = marks[end];
            kept--;
            moves--;
            pushed -= isPush(mark) ? 1 : 0;
            return mark;
        }

        /** Asked only for 0 .. kept - 1. */
        int letterAt(int i) {
            int mark = marks[(end + MOST - kept + i) % MOST];
            return LETTERS.charAt(mark & (LETTERS.length() - 1));
        }
    }

    /**
     * Each goal is given a box of its own so that the sum is least: goals come one after the other,
     * and each takes the cheapest chain of changes (the Hungarian method). Number 0 stands for none.
     */
    private static final class Matching {
        private static final int SIZE = PIECES_MOST + 1;
        /** More than all goals together can cost, so that it is chosen only where nothing else can be. */
        private static final int NEVER = 100000;
        private static final int ENDLESS = 1000000000;

        private final int[] costs = new int[SIZE * SIZE];
        private final int[] goalLevel = new int[SIZE];
        private final int[] boxLevel = new int[SIZE];
        private final int[] goalOfBox = new int[SIZE];
        private final int[] boxBefore = new int[SIZE];
        private final int[] slack = new int[SIZE];
        private final boolean[] seen = new boolean[SIZE];

        /** Goal and box count from 0; steps are -1 where there is no path. */
        void setCost(int goal, int box, int steps) {
            if (goal >= 0 && goal < PIECES_MOST && box >= 0 && box < PIECES_MOST) {
                costs[(goal + 1) * SIZE + box + 1] = steps < 0 ? NEVER : steps;
            }
        }

        /** -1 when some goal can get no box. */
        int leastSum(int goalCount, int boxCount) {
            if (goalCount > boxCount || boxCount > PIECES_MOST) {
                return -1;
            }
            Arrays.fill(goalLevel, 0);
            Arrays.fill(boxLevel, 0);
            Arrays.fill(goalOfBox, 0);
            for (int goal = 1; goal <= goalCount; goal++) {
                giveBoxTo(goal, boxCount);
            }
            int sum = 0;
            for (int box = 1; box <= boxCount; box++) {
                if (goalOfBox[box] != 0) {
                    sum += costs[goalOfBox[box] * SIZE + box];
                }
            }
            return sum >= NEVER ? -1 : sum;
        }

        private void giveBoxTo(int goal, int boxCount) {
            goalOfBox[0] = goal;
            for (int any = 0; any <= boxCount; any++) {
                slack[any] = ENDLESS;
                seen[any] = false;
            }
            int box = 0;
            for (int round = 0; round <= boxCount; round++) {
                seen[box] = true;
                box = nextBox(box, boxCount);
                if (goalOfBox[box] == 0) {
                    break;
                }
            }
            for (int back = 0; back <= boxCount && box != 0; back++) {
                int before = boxBefore[box];
                goalOfBox[box] = goalOfBox[before];
                box = before;
            }
        }

        /** Widens the tree of changes from a box that was just seen, by the cheapest box outside it. */
        private int nextBox(int from, int boxCount) {
            int goal = goalOfBox[from];
            int least = ENDLESS;
            int next = 0;
            for (int box = 1; box <= boxCount; box++) {
                if (seen[box]) {
                    continue;
                }
                int cost = costs[goal * SIZE + box] - goalLevel[goal] - boxLevel[box];
                if (cost < slack[box]) {
                    slack[box] = cost;
                    boxBefore[box] = from;
                }
                if (slack[box] < least) {
                    least = slack[box];
                    next = box;
                }
            }
            for (int box = 0; box <= boxCount; box++) {
                if (seen[box]) {
                    goalLevel[goalOfBox[box]] += least;
                    boxLevel[box] -= least;
                } else {
                    slack[box] -= least;
                }
            }
            return next;
        }
    }

    /**
     * Fewest pushes by breadth. A state is the boxes and the lowest cell of the reach, which tells one
     * reach from another. What it found stays here until the next search.
     */
    private static final class Search {
        private static final int FEW = 128;
        private static final int FEW_SLOTS = 256;
        private static final int MOST_SLOTS = 16384;
        private static final long MIX = 0x9E3779B97F4A7C15L;

        int count;
        int length;
        private long[] boxesOf = new long[FEW];
        private int[] lowestOf = new int[FEW];
        private int[] parentOf = new int[FEW];
        private int[] pushOf = new int[FEW];
        /** Where each state is found by what it is: its number and 1, or 0. */
        private int[] slots = new int[FEW_SLOTS];
        private int found;
        private boolean overfull;

        int run(Board board, int most) {
            Arrays.fill(slots, 0);
            count = 0;
            length = 0;
            found = -1;
            overfull = false;
            int lowest = spotOf(board.reachOf(board.person, board.boxes));
            takeIn(board.boxes, lowest, 0, 0);
            if (board.isDone(board.boxes)) {
                found = 0;
            }
            for (int state = 0; state < count && state < STATES_MOST; state++) {
                if (found >= 0 || overfull) {
                    break;
                }
                pushFrom(board, state, most);
            }
            if (overfull) {
                return -2;
            }
            length = pushesTo(found);
            return found < 0 ? -1 : length;
        }

        /** Asked only for 0 .. length - 1. */
        int pushAt(int k) {
            int state = found;
            for (int later = length - 1; later > k; later--) {
                state = parentOf[state];
            }
            return pushOf[state];
        }

        private int pushesTo(int last) {
            int pushCount = 0;
            int state = last;
            for (int back = 0; back < count && state > 0; back++) {
                state = parentOf[state];
                pushCount++;
            }
            return pushCount;
        }

        private void pushFrom(Board board, int state, int most) {
            long boxes = boxesOf[state];
            long come = board.reachOf(1L << lowestOf[state], boxes);
            // A box on a dead cell is left out by what it may be pushed to.
            long open = board.live & ~boxes;
            for (int spot = 0; spot < CELLS; spot++) {
                if (!has(boxes, spot)) {
                    continue;
                }
                long box = 1L << spot;
                for (int way = 0; way < WAYS; way++) {
                    long to = shifted(box, way) & open;
                    if (to == 0 || (shifted(box, against(way)) & come) == 0) {
                        continue;
                    }
                    comeTo(board, boxes ^ box ^ to, box, state, WAYS * board.cellOf(box) + way, most);
                    if (found >= 0 || overfull) {
                        return;
                    }
                }
            }
        }

        private void comeTo(Board board, long boxes, long person, int parent, int push, int most) {
            if (board.isStuck(boxes)) {
                return;
            }
            int lowest = spotOf(board.reachOf(person, boxes));
            if (slots[slotOf(boxes, lowest)] != 0) {
                return;
            }
            if (count >= most) {
                overfull = true;
                return;
            }
            takeIn(boxes, lowest, parent, push);
            if (board.isDone(boxes)) {
                found = count - 1;
            }
        }

        private void takeIn(long boxes, int lowest, int parent, int push) {
            if (count >= boxesOf.length) {
                makeRoom();
            }
            boxesOf[count] = boxes;
            lowestOf[count] = lowest;
            parentOf[count] = parent;
            pushOf[count] = push;
            count++;
            slots[slotOf(boxes, lowest)] = count;
        }

        /** Most searches are short: the long rows are made once, for the first search that needs them. */
        private void makeRoom() {
            boxesOf = Arrays.copyOf(boxesOf, STATES_MOST);
            lowestOf = Arrays.copyOf(lowestOf, STATES_MOST);
            parentOf = Arrays.copyOf(parentOf, STATES_MOST);
            pushOf = Arrays.copyOf(pushOf, STATES_MOST);
            slots = new int[MOST_SLOTS];
            for (int state = 0; state < count; state++) {
                slots[slotOf(boxesOf[state], lowestOf[state])] = state + 1;
            }
        }

        /** The slot of a state, or the empty one where it belongs: there are more slots than states. */
        private int slotOf(long boxes, int lowest) {
            int last = slots.length - 1;
            long mixed = (boxes * MIX + lowest) * MIX;
            int slot = (int) (mixed >>> 40) & last;
            for (int tries = 0; tries < last; tries++) {
                int state = slots[slot] - 1;
                if (state < 0 || boxesOf[state] == boxes && lowestOf[state] == lowest) {
                    break;
                }
                slot = (slot + 1) & last;
            }
            return slot;
        }
    }
}
