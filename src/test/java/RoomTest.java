import com.sun.management.ThreadMXBean;
import java.lang.management.ManagementFactory;

/** What calls make is never given back in the room they live in: it must stay small. */
public final class RoomTest {
    private static final Due due = new Due("room");
    private static final ThreadMXBean THREADS = (ThreadMXBean) ManagementFactory.getThreadMXBean();
    /** 7.3 million elements of 8 bytes. */
    private static final long ROOM = 7300000L * 8;
    private static final String WIDE =
        "        | $ $ $  |        |  $ $ $ |        | ...... |        |@       ";

    public static void main(String[] args) {
        newObjects();
        longSearches();
        shortCalls();
        due.end();
    }

    /** The object itself, because what surrounds it in Boards would be counted too. */
    private static PushBoards wideBoard() {
        PushBoards boards = new PushBoards();
        for (int i = 0; i < WIDE.length(); i++) {
            boards.unit(WIDE.charAt(i));
        }
        due.is("read()", boards.read(), 6);
        return boards;
    }

    private static long made() {
        return THREADS.getThreadAllocatedBytes(Thread.currentThread().getId());
    }

    private static void small(String what, long before, long most) {
        long bytes = made() - before;
        due.is(what + " made " + bytes + " bytes, more than " + most, bytes > most, false);
    }

    private static void newObjects() {
        long before = made();
        int told = 0;
        for (int i = 0; i < 512; i++) {
            told += new PushBoards().told(0);
        }
        due.is("told(0)", told, 0);
        small("512 new objects", before, ROOM / 8);
    }

    private static void longSearches() {
        PushBoards boards = wideBoard();
        long before = made();
        for (int i = 0; i < 40; i++) {
            boards.search(10000);
        }
        due.is("states()", boards.states(), 10000);
        small("40 of the longest searches", before, ROOM / 32);
        before = made();
        for (int i = 0; i < 40; i++) {
            boards.search(10000);
        }
        small("40 more", before, 2000);
    }

    private static void shortCalls() {
        PushBoards boards = wideBoard();
        boards.bound();
        long before = made();
        int sum = 0;
        for (int i = 0; i < 28; i++) {
            sum += boards.bound() + boards.fast() + boards.reach() + boards.way(i % 8, i / 8);
            sum += boards.move(i % 4) + boards.picture(i) + boards.letter(i) + boards.pushes(1, 1, i % 8, 5);
            sum += boards.undo() + (boards.stuck() ? 1 : 0) + boards.told(i % 9) + boards.push(i);
            boards.unit('x');
            sum += i % 2 == 0 ? boards.row() : boards.read();
        }
        due.is("something was answered", sum != 0, true);
        small("28 of each other call", before, 2000);
    }
}
