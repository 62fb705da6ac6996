import java.util.ArrayDeque;
import java.util.ArrayList;
import java.util.Arrays;
import java.util.HashSet;
import java.util.List;
import java.util.Set;

/** A slow model of PushBoards, cell by cell and straight from the document, to compare answers with. */
final class PlainBoards {
    private static final int[] DX = {1, 0, -1, 0};
    private static final int[] DY = {0, 1, 0, -1};

    private StringBuilder text = new StringBuilder();
    private int w;
    private int h;
    private boolean[][] wall = new boolean[0][0];
    private boolean[][] goal = new boolean[0][0];
    private boolean[][] box = new boolean[0][0];
    private int px = -1;
    private int py = -1;
    private int moves;
    private int pushCount;
    private final List<Character> letters = new ArrayList<>();
    private List<Integer> found = new ArrayList<>();
    private int taken;

    boolean unit(int u) {
        if (u < 0 || u > 255 || text.length() == 160) {
            return false;
        }
        text.append((char) u);
        return true;
    }

    int read() {
        String all = text.toString();
        text = new StringBuilder();
        List<StringBuilder> rows = new ArrayList<>();
        boolean open = false;
        int persons = 0;
        int boxes = 0;
        int goals = 0;
        for (int i = 0; i < all.length(); i++) {
            char c = all.charAt(i);
            if (!open && rows.size() == 8) {
                return -1 - i;
            }
            if (!open) {
                rows.add(new StringBuilder());
                open = true;
            }
            if (c == '|' || c == '\n') {
                open = false;
                continue;
            }
            persons += c == '@' || c == '+' ? 1 : 0;
            boxes += c == '$' || c == '*' ? 1 : 0;
            goals += c == '.' || c == '*' || c == '+' ? 1 : 0;
            StringBuilder last = rows.get(rows.size() - 1);
            if ("# _.$*@+".indexOf(c) < 0 || last.length() == 8 || persons > 1 || boxes > 12 || goals > 12) {
                return -1 - i;
            }
            last.append(c);
        }
        int longest = 0;
        for (StringBuilder r : rows) {
            longest = Math.max(longest, r.length());
        }
        if (longest == 0 || persons == 0 || boxes < goals) {
            return -200;
        }
        set(rows, longest);
        return boxes;
    }

    private void set(List<StringBuilder> rows, int longest) {
        w = longest;
        h = rows.size();
        wall = new boolean[w][h];
        goal = new boolean[w][h];
        box = new boolean[w][h];
        for (int y = 0; y < h; y++) {
            for (int x = 0; x < rows.get(y).length(); x++) {
                char c = rows.get(y).charAt(x);
                wall[x][y] = c == '#';
                goal[x][y] = c == '.' || c == '*' || c == '+';
                box[x][y] = c == '$' || c == '*';
                if (c == '@' || c == '+') {
                    px = x;
                    py = y;
                }
            }
        }
        moves = 0;
        pushCount = 0;
        letters.clear();
    }

    int row() {
        String all = text.toString();
        text = new StringBuilder();
        int done = 0;
        for (int i = 0; i < all.length(); i++) {
            int times = 1;
            if ("23456789".indexOf(all.charAt(i)) >= 0) {
                times = all.charAt(i) - '0';
                i++;
            }
            int way = i < all.length() ? "rdlu".indexOf(all.charAt(i)) : -1;
            if (way < 0 && i < all.length()) {
                way = "RDLU".indexOf(all.charAt(i));
            }
            for (int t = 0; t < times; t++) {
                if (way < 0 || w == 0 || step(way) == 0) {
                    return -1 - i;
                }
                done++;
            }
        }
        return done;
    }

    int move(int way) {
        if (w == 0) {
            throw new IllegalStateException();
        }
        if (way < 0 || way > 3) {
            throw new ArrayIndexOutOfBoundsException();
        }
        return step(way);
    }

    private boolean floor(int x, int y) {
        return x >= 0 && x < w && y >= 0 && y < h && !wall[x][y];
    }

    private int step(int way) {
        int x = px + DX[way];
        int y = py + DY[way];
        if (!floor(x, y)) {
            return 0;
        }
        boolean push = box[x][y];
        if (push) {
            int bx = x + DX[way];
            int by = y + DY[way];
            if (!floor(bx, by) || box[bx][by]) {
                return 0;
            }
            box[x][y] = false;
            box[bx][by] = true;
            pushCount++;
        }
        px = x;
        py = y;
        moves++;
        letters.add((push ? "RDLU" : "rdlu").charAt(way));
        if (letters.size() > 500) {
            letters.remove(0);
        }
        return push ? 2 : 1;
    }

    int undo() {
        if (letters.isEmpty()) {
            return 0;
        }
        char c = letters.remove(letters.size() - 1);
        moves--;
        int way = "rdlu".indexOf(Character.toLowerCase(c));
        boolean push = Character.isUpperCase(c);
        if (push) {
            box[px + DX[way]][py + DY[way]] = false;
            box[px][py] = true;
            pushCount--;
        }
        px -= DX[way];
        py -= DY[way];
        return push ? 2 : 1;
    }

    int told(int what) {
        int boxes = 0;
        int goals = 0;
        int both = 0;
        for (int x = 0; x < w; x++) {
            for (int y = 0; y < h; y++) {
                boxes += box[x][y] ? 1 : 0;
                goals += goal[x][y] ? 1 : 0;
                both += box[x][y] && goal[x][y] ? 1 : 0;
            }
        }
        int[] all = {w, h, boxes, goals, both, moves, pushCount, w == 0 ? -1 : w * py + px,
            w > 0 && both == goals ? 1 : 0};
        return what < 0 || what >= all.length ? -1 : all[what];
    }

    int picture(int i) {
        StringBuilder all = new StringBuilder();
        for (int y = 0; y < h; y++) {
            for (int x = 0; x < w; x++) {
                String signs = goal[x][y] ? "+*." : "@$ ";
                int which = x == px && y == py ? 0 : box[x][y] ? 1 : 2;
                all.append(wall[x][y] ? '#' : signs.charAt(which));
            }
            all.append('\n');
        }
        return i < 0 || i >= all.length() ? -1 : all.charAt(i);
    }

    int letter(int i) {
        return i < 0 || i >= letters.size() ? -1 : letters.get(i);
    }

    /** Fewest moves to each cell, -1 where the person can't come. */
    private int[][] walk(boolean[][] boxes, int fromX, int fromY) {
        int[][] fewest = new int[w][h];
        for (int[] column : fewest) {
            Arrays.fill(column, -1);
        }
        ArrayDeque<int[]> queue = new ArrayDeque<>();
        queue.add(new int[] {fromX, fromY});
        fewest[fromX][fromY] = 0;
        while (!queue.isEmpty()) {
            int[] c = queue.remove();
            for (int d = 0; d < 4; d++) {
                int x = c[0] + DX[d];
                int y = c[1] + DY[d];
                if (floor(x, y) && !boxes[x][y] && fewest[x][y] < 0) {
                    fewest[x][y] = fewest[c[0]][c[1]] + 1;
                    queue.add(new int[] {x, y});
                }
            }
        }
        return fewest;
    }

    int reach() {
        int count = 0;
        if (w > 0) {
            for (int[] column : walk(box, px, py)) {
                for (int fewest : column) {
                    count += fewest >= 0 ? 1 : 0;
                }
            }
        }
        return count;
    }

    private void look(int x, int y) {
        if (x < 0 || x >= w || y < 0 || y >= h) {
            throw new ArrayIndexOutOfBoundsException();
        }
    }

    int way(int x, int y) {
        look(x, y);
        return walk(box, px, py)[x][y];
    }

    private boolean[][] live() {
        boolean[][] live = new boolean[w][h];
        boolean more = true;
        while (more) {
            more = false;
            for (int x = 0; x < w; x++) {
                for (int y = 0; y < h; y++) {
                    boolean now = goal[x][y];
                    for (int d = 0; d < 4; d++) {
                        now |= floor(x, y) && floor(x + DX[d], y + DY[d]) && live[x + DX[d]][y + DY[d]]
                            && floor(x - DX[d], y - DY[d]);
                    }
                    more |= now && !live[x][y];
                    live[x][y] |= now;
                }
            }
        }
        return live;
    }

    boolean dead(int x, int y) {
        look(x, y);
        return !wall[x][y] && !live()[x][y];
    }

    /** One box after the other is taken away, as the document tells it. */
    private boolean[][] standing(boolean[][] boxes) {
        boolean[][] live = live();
        boolean[][] fast = new boolean[w][];
        for (int x = 0; x < w; x++) {
            fast[x] = boxes[x].clone();
        }
        boolean more = true;
        while (more) {
            more = false;
            for (int x = 0; x < w && !more; x++) {
                for (int y = 0; y < h && !more; y++) {
                    if (fast[x][y] && (along(fast, live, x, y, 1, 0) || along(fast, live, x, y, 0, 1))) {
                        fast[x][y] = false;
                        more = true;
                    }
                }
            }
        }
        return fast;
    }

    private boolean along(boolean[][] fast, boolean[][] live, int x, int y, int dx, int dy) {
        if (!floor(x - dx, y - dy) || !floor(x + dx, y + dy)) {
            return false;
        }
        if (fast[x - dx][y - dy] || fast[x + dx][y + dy]) {
            return false;
        }
        return live[x - dx][y - dy] || live[x + dx][y + dy];
    }

    int fast() {
        int count = 0;
        for (boolean[] column : standing(box)) {
            for (boolean f : column) {
                count += f ? 1 : 0;
            }
        }
        return count;
    }

    boolean stuck() {
        return stuckWith(box);
    }

    private boolean stuckWith(boolean[][] boxes) {
        boolean[][] fast = standing(boxes);
        for (int x = 0; x < w; x++) {
            for (int y = 0; y < h; y++) {
                if (fast[x][y] && !goal[x][y]) {
                    return true;
                }
            }
        }
        return false;
    }

    /** Every way of giving boxes to goals, by the set of boxes given so far. */
    int bound() {
        List<int[]> boxes = new ArrayList<>();
        List<int[]> goals = new ArrayList<>();
        for (int x = 0; x < w; x++) {
            for (int y = 0; y < h; y++) {
                if (box[x][y]) {
                    boxes.add(new int[] {x, y});
                }
                if (goal[x][y]) {
                    goals.add(new int[] {x, y});
                }
            }
        }
        int[] least = new int[1 << boxes.size()];
        Arrays.fill(least, -1);
        least[0] = 0;
        int best = -1;
        for (int given = 0; given < least.length; given++) {
            int next = Integer.bitCount(given);
            if (least[given] < 0 || next > goals.size()) {
                continue;
            }
            if (next == goals.size()) {
                best = best < 0 ? least[given] : Math.min(best, least[given]);
                continue;
            }
            for (int b = 0; b < boxes.size(); b++) {
                int[] from = boxes.get(b);
                int[] to = goals.get(next);
                int cost = (given >> b & 1) != 0 ? -1 : pushes(from[0], from[1], to[0], to[1]);
                int then = given | 1 << b;
                if (cost >= 0 && (least[then] < 0 || least[then] > least[given] + cost)) {
                    least[then] = least[given] + cost;
                }
            }
        }
        return best;
    }

    int pushes(int x, int y, int x2, int y2) {
        look(x, y);
        look(x2, y2);
        if (wall[x][y]) {
            return -1;
        }
        int[][] fewest = new int[w][h];
        for (int[] column : fewest) {
            Arrays.fill(column, -1);
        }
        ArrayDeque<int[]> queue = new ArrayDeque<>();
        queue.add(new int[] {x, y});
        fewest[x][y] = 0;
        while (!queue.isEmpty()) {
            int[] c = queue.remove();
            for (int d = 0; d < 4; d++) {
                int tx = c[0] + DX[d];
                int ty = c[1] + DY[d];
                if (floor(tx, ty) && floor(c[0] - DX[d], c[1] - DY[d]) && fewest[tx][ty] < 0) {
                    fewest[tx][ty] = fewest[c[0]][c[1]] + 1;
                    queue.add(new int[] {tx, ty});
                }
            }
        }
        return fewest[x2][y2];
    }

    private static final class State {
        boolean[][] boxes;
        int x;
        int y;
        State parent;
        int push;
    }

    /** Where boxes are, and every cell of the reach. */
    private String nameOf(State s) {
        int[][] fewest = walk(s.boxes, s.x, s.y);
        StringBuilder all = new StringBuilder();
        for (int x = 0; x < w; x++) {
            for (int y = 0; y < h; y++) {
                all.append(s.boxes[x][y] ? '$' : fewest[x][y] >= 0 ? 'o' : ' ');
            }
        }
        return all.toString();
    }

    private boolean isDone(State s) {
        for (int x = 0; x < w; x++) {
            for (int y = 0; y < h; y++) {
                if (goal[x][y] && !s.boxes[x][y]) {
                    return false;
                }
            }
        }
        return true;
    }

    int search(int most) {
        if (most < 1 || most > 10000 || w == 0) {
            return -3;
        }
        found = new ArrayList<>();
        State first = new State();
        first.boxes = box;
        first.x = px;
        first.y = py;
        List<State> all = new ArrayList<>();
        Set<String> names = new HashSet<>();
        all.add(first);
        names.add(nameOf(first));
        taken = 1;
        if (isDone(first)) {
            return 0;
        }
        for (int at = 0; at < all.size(); at++) {
            for (State next : after(all.get(at))) {
                if (!names.add(nameOf(next))) {
                    continue;
                }
                if (all.size() == most) {
                    return -2;
                }
                all.add(next);
                taken = all.size();
                if (isDone(next)) {
                    for (State s = next; s.parent != null; s = s.parent) {
                        found.add(0, s.push);
                    }
                    return found.size();
                }
            }
        }
        return -1;
    }

    private List<State> after(State s) {
        List<State> all = new ArrayList<>();
        boolean[][] live = live();
        int[][] fewest = walk(s.boxes, s.x, s.y);
        for (int cell = 0; cell < w * h; cell++) {
            int x = cell % w;
            int y = cell / w;
            for (int d = 0; d < 4 && s.boxes[x][y]; d++) {
                int tx = x + DX[d];
                int ty = y + DY[d];
                int bx = x - DX[d];
                int by = y - DY[d];
                if (!floor(tx, ty) || s.boxes[tx][ty] || !floor(bx, by) || fewest[bx][by] < 0) {
                    continue;
                }
                State next = new State();
                next.boxes = new boolean[w][];
                for (int i = 0; i < w; i++) {
                    next.boxes[i] = s.boxes[i].clone();
                }
                next.boxes[x][y] = false;
                next.boxes[tx][ty] = true;
                next.x = x;
                next.y = y;
                next.parent = s;
                next.push = 4 * cell + d;
                if (live[tx][ty] && !stuckWith(next.boxes)) {
                    all.add(next);
                }
            }
        }
        return all;
    }

    int push(int k) {
        return k < 0 || k >= found.size() ? -1 : found.get(k);
    }

    int states() {
        return taken;
    }
}
