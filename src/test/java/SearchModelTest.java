import java.util.Random;

/** Searches of boards that are not lost from the start, beside the slow model. */
public final class SearchModelTest {
    private static final Due due = new Due("searches beside the model");
    private static final int BOARDS = 400;

    public static void main(String[] args) {
        Random random = new Random(7);
        int found = 0;
        int none = 0;
        int tooMany = 0;
        for (int done = 0, tries = 0; done < BOARDS && tries < 1000000; tries++) {
            String picture = randomPicture(random);
            PlainBoards plain = new PlainBoards();
            for (int i = 0; i < picture.length(); i++) {
                plain.unit(picture.charAt(i));
            }
            plain.read();
            if (plain.stuck() || plain.told(8) == 1 || plain.bound() < 2) {
                continue;
            }
            done++;
            int answer = compare(picture, plain, done % 40 == 0 ? 10000 : 1 + random.nextInt(2000));
            found += answer > 0 ? 1 : 0;
            none += answer == -1 ? 1 : 0;
            tooMany += answer == -2 ? 1 : 0;
        }
        due.is("each kind of answer came often", found > 50 && none > 20 && tooMany > 50, true);
        due.end();
    }

    private static int compare(String picture, PlainBoards plain, int most) {
        Boards boards = Boards.of(picture);
        int answer = plain.search(most);
        String name = picture + " search(" + most + ")";
        due.is(name, boards.search(most), answer);
        due.is(name + " states()", boards.states(), plain.states());
        for (int k = -1; k <= Math.max(answer, 0); k++) {
            due.is(name + " push(" + k + ")", boards.push(k), plain.push(k));
        }
        due.is(name + " bound()", boards.bound(), plain.bound());
        due.is(name + " the bound is not more", answer < 0 || boards.bound() <= answer, true);
        // The same once more, in rows that were used before, and with just enough room and not.
        int states = boards.states();
        due.is(name + " again", boards.search(most), answer);
        due.is(name + " states() again", boards.states(), states);
        if (answer > 0) {
            due.is(name + " just enough", boards.search(states), answer);
            due.is(name + " one too few", boards.search(states - 1), -2);
            due.is(name + " states() of one too few", boards.states(), states - 1);
        }
        return answer;
    }

    private static String randomPicture(Random random) {
        int w = 4 + random.nextInt(5);
        int h = 4 + random.nextInt(5);
        char[][] cells = new char[h][w];
        int wallPart = random.nextInt(3) * 12;
        for (char[] line : cells) {
            for (int x = 0; x < w; x++) {
                line[x] = random.nextInt(100) < wallPart ? '#' : ' ';
            }
        }
        int boxCount = 1 + random.nextInt(4);
        cells[random.nextInt(h)][random.nextInt(w)] = '@';
        for (int i = 0; i < boxCount; i++) {
            cells[1 + random.nextInt(h - 2)][1 + random.nextInt(w - 2)] = '$';
            cells[random.nextInt(h)][random.nextInt(w)] = '.';
        }
        StringBuilder text = new StringBuilder();
        for (char[] line : cells) {
            text.append(line).append('|');
        }
        return text.toString();
    }
}
