import java.util.ArrayList;
import java.util.Arrays;
import java.util.HashSet;
import java.util.List;
import java.util.Random;
import java.util.Set;

/**
 * What it is: fewest pushes, with what can be left out safely. Where each box is needed, an answer must be that
 * of a search that leaves nothing out but what it has seen; and the bound is never above it.
 */
public final class SafeSearchTest {
    private static final Due due = new Due("what it is, the search leaves out safely");
    private static final int BOARDS = 1500;
    private static final int STATES_MOST = 60000;
    private static final int UNKNOWN = -9;

    private final int w;
    private final int h;
    private final String cells;

    private SafeSearchTest(int w, int h, String cells) {
        this.w = w;
        this.h = h;
        this.cells = cells;
    }

    public static void main(String[] args) {
        Random random = new Random(20261116);
        int found = 0;
        int none = 0;
        for (int i = 0; i < BOARDS; i++) {
            int answer = compare(randomBoard(random));
            found += answer > 1 ? 1 : 0;
            none += answer == -1 ? 1 : 0;
        }
        due.is("boards with and without an end came often", found > 100 && none > 100, true);
        due.end();
    }

    private static int compare(SafeSearchTest made) {
        int fewest = made.fewestPushes();
        String picture = made.picture();
        Boards boards = Boards.of(picture);
        int answer = boards.search(10000);
        int bound = boards.bound();
        if (fewest == UNKNOWN || answer == -2) {
            return UNKNOWN;
        }
        due.is(picture + " search(10000)", answer, fewest);
        if (fewest >= 0) {
            due.is(picture + " bound() is not above it", bound >= 0 && bound <= fewest, true);
            due.is(picture + " stuck() unless it is done", boards.stuck() && fewest > 0, false);
        }
        if (bound < 0 || boards.stuck()) {
            due.is(picture + " can't be done", fewest, -1);
        }
        return answer;
    }

    /** As many goals as boxes. */
    private static SafeSearchTest randomBoard(Random random) {
        int w = 2 + random.nextInt(5);
        int h = 3 + random.nextInt(3);
        char[] cells = new char[w * h];
        for (int c = 0; c < cells.length; c++) {
            cells[c] = random.nextInt(8) == 0 ? '#' : ' ';
        }
        int person = random.nextInt(cells.length);
        cells[person] = '@';
        int boxes = 1 + random.nextInt(3);
        for (int i = 0; i < boxes; i++) {
            int box = random.nextInt(cells.length);
            int goal = random.nextInt(4) == 0 ? box : random.nextInt(cells.length);
            if (cells[box] != ' ' || cells[goal] != ' ' && goal != box) {
                continue;
            }
            cells[goal] = '.';
            cells[box] = box == goal ? '*' : '$';
        }
        return new SafeSearchTest(w, h, new String(cells));
    }

    private String picture() {
        StringBuilder text = new StringBuilder();
        for (int y = 0; y < h; y++) {
            text.append(cells, y * w, y * w + w).append('|');
        }
        return text.toString();
    }

    private int fewestPushes() {
        char[] start = cells.toCharArray();
        List<char[]> round = new ArrayList<>(List.of(start));
        Set<String> seen = new HashSet<>();
        spread(start, cells.indexOf('@'));
        seen.add(new String(start));
        for (int pushes = 0; !round.isEmpty(); pushes++) {
            List<char[]> next = new ArrayList<>();
            for (char[] state : round) {
                if (isDone(state)) {
                    return pushes;
                }
                addPushes(state, seen, next);
            }
            if (seen.size() > STATES_MOST) {
                return UNKNOWN;
            }
            round = next;
        }
        return -1;
    }

    private boolean isDone(char[] state) {
        for (int c = 0; c < state.length; c++) {
            if (isGoal(c) && state[c] != '$') {
                return false;
            }
        }
        return true;
    }

    private boolean isGoal(int c) {
        return cells.charAt(c) == '.' || cells.charAt(c) == '*';
    }

    private void addPushes(char[] state, Set<String> seen, List<char[]> next) {
        for (int c = 0; c < state.length; c++) {
            for (int dx = -1; dx <= 1; dx++) {
                for (int dy = -1; dy <= 1; dy++) {
                    int to = at(c % w + dx, c / w + dy);
                    int from = at(c % w - dx, c / w - dy);
                    boolean straight = dx == 0 ^ dy == 0;
                    if (!straight || state[c] != '$' || to < 0 || from < 0 || state[from] != '@'
                        || state[to] != '@' && state[to] != ' ') {
                        continue;
                    }
                    char[] pushed = state.clone();
                    pushed[c] = ' ';
                    pushed[to] = '$';
                    spread(pushed, c);
                    if (seen.add(new String(pushed))) {
                        next.add(pushed);
                    }
                }
            }
        }
    }

    /** -1 outside. */
    private int at(int x, int y) {
        return x < 0 || x >= w || y < 0 || y >= h ? -1 : y * w + x;
    }

    /** Leaves walls, boxes and the cells where the person can go, so that two equal ones are one state. */
    private void spread(char[] state, int person) {
        for (int c = 0; c < state.length; c++) {
            char sign = state[c];
            state[c] = sign == '#' ? '#' : sign == '$' || sign == '*' ? '$' : ' ';
        }
        boolean[] taken = new boolean[state.length];
        int[] come = new int[state.length];
        Arrays.fill(come, -1);
        come[0] = person;
        taken[person] = true;
        for (int i = 0, end = 1; i < end; i++) {
            int c = come[i];
            state[c] = '@';
            int[] beside = {at(c % w + 1, c / w), at(c % w, c / w + 1), at(c % w - 1, c / w), at(c % w, c / w - 1)};
            for (int to : beside) {
                if (to >= 0 && !taken[to] && state[to] == ' ') {
                    taken[to] = true;
                    come[end] = to;
                    end++;
                }
            }
        }
    }
}
