import java.lang.management.ManagementFactory;

/**
 * All calls of one run live in one room: what a run of 512 calls makes, with the object itself, is measured in bytes.
 * The room has some 7.3 million fields and elements; none is smaller than a byte, and nearly all have four or eight.
 */
public final class RoomTest {
    private static final int MOST_CALLS = 512;
    private static final long MOST_BYTES = 6_000_000;
    private static final com.sun.management.ThreadMXBean COUNTER =
        (com.sun.management.ThreadMXBean) ManagementFactory.getThreadMXBean();
    private static int wrong = 0;

    private interface Run {
        /** Makes up to so many calls on a new object. */
        void go(int calls);
    }

    private static void measure(String what, Run run) {
        // the first time loads classes, which is no part of the run
        run.go(MOST_CALLS);
        long thread = Thread.currentThread().getId();
        long before = COUNTER.getThreadAllocatedBytes(thread);
        run.go(MOST_CALLS);
        long made = COUNTER.getThreadAllocatedBytes(thread) - before;
        if (made <= 0 || made > MOST_BYTES) {
            wrong++;
            System.out.println(what + ": made " + made + " bytes, at most " + MOST_BYTES + " are due");
        }
    }

    private static Rackword ofTwo(int least) {
        Rackword x = new Rackword();
        x.rules(13, least, 2, 30, 3);
        x.player(0, Rackword.GREEDY);
        x.player(0, Rackword.GREEDY);
        return x;
    }

    /** All 104 tiles come to lie on the table; the dearest questions are asked there until no call is left. */
    private static void greatTable(int calls) {
        Rackword x = ofTwo(4);
        x.deal(45 * 977, 14, 9999);
        int made = 7;
        for (; made < calls && x.sum(2) < 104; made += 2) x.auto();
        if (made + 60 > calls) throw new IllegalStateException("the tiles lie too late: " + made);
        for (; made + 6 <= calls; made += 6) {
            x.states(7 + made % 7);
            x.cuts(0);
            x.alone(0);
            x.best(0, 0);
            x.isWhole();
            x.isReplayed();
        }
    }

    /** Round behind round, so that what a deal makes is counted as often as it can be. */
    private static void deals(int calls) {
        Rackword x = ofTwo(3);
        x.rules(5, 3, 3, 0, 9);
        int made = 4;
        while (made + 3 <= calls) {
            if (x.sum(0) == Rackword.NONE) x.deal(made, 14, 9999);
            else x.auto();
            x.best(0, 0);
            made += 3;
        }
    }

    /** Refused calls alone, each with its exception. */
    private static void refused(int calls) {
        Rackword x = new Rackword();
        for (int i = 1; i < calls; i++) {
            try {
                if (i % 3 == 0) x.lay(0);
                else if (i % 3 == 1) x.cuts(3);
                else x.best(0, 0);
            } catch (IllegalStateException | IllegalArgumentException | IndexOutOfBoundsException e) {
                continue;
            }
            throw new IllegalStateException("not refused");
        }
    }

    /** Moves typed sign by sign; the round stays on as long as there are calls. */
    private static void typed(int calls) {
        Rackword x = ofTwo(3);
        x.deal(7, 7, 9999);
        for (int made = 4; made + 4 <= calls; made += 4) {
            x.type('w');
            x.type('t');
            if (x.sum(0) == Rackword.NONE) x.wipe();
            else x.play();
        }
    }

    public static void main(String[] args) {
        measure("a table of all tiles", RoomTest::greatTable);
        measure("rounds", RoomTest::deals);
        measure("refused calls", RoomTest::refused);
        measure("moves typed", RoomTest::typed);
        System.out.println(wrong == 0 ? "each run stays in its room" : wrong + " runs are too large");
        if (wrong > 0) System.exit(1);
    }
}
