/** "An object is used for at most 512 calls after it has been made": up to the 512th all answers are as those of a new one. */
public final class LastCallTest {
    private static final int CALLS = 512;
    private static final String YARD = "lane 4;lane 4;lane 4;car 1 6 0;car 1 2 0;car 1 3 0;car 1 4 0;car 1 5 0;car 1 1 0;key 0 1;";
    private static final String WORK = "park 0 0;park 1 0;park 2 0;park 3 0;park 4 1;park 5 1;move 5 1 2;";

    interface Asked {
        long of(BlockedCars x);
    }

    public static void main(String[] args) {
        asked();
        refused();
        fedAndRead();
        workedAndUndone();
        keptAndRestored();
        Check.end("LastCallTest");
    }

    private static BlockedCars ready() {
        return Check.with(YARD, WORK);
    }

    /** How many calls made it ready. */
    private static int callsToBeReady() {
        return (YARD.length() + 19) / 20 + 1 + (WORK.length() + 19) / 20 + 1;
    }

    private static void asked() {
        asked(16, "frees", x -> x.frees(0, 1));
        asked(16, "frees", x -> x.frees(0, 0));
        asked(17, "morning", x -> x.morning(0));
        asked(17, "morning", x -> x.morning(1));
        asked(18, "corner", x -> x.corner(1));
        asked(20, "evening", x -> x.evening(63, 1));
        asked(22, "leaks", x -> x.leaks(0));
        asked(23, "look", x -> x.look(1));
        asked(26, "spare", x -> x.spare(0));
        asked(29, "days", x -> x.days(5, 60, 9, 0));
        asked(30, "span", x -> x.span(5, 20, 60, 9, 1, 0));
        asked(14, "would", x -> x.would(2, 9, 0, 0, 0, 0, 0, 0));
    }

    private static void asked(int promise, String name, Asked call) {
        BlockedCars x = ready();
        long due = call.of(ready());
        for (int i = callsToBeReady() + 1; i <= CALLS; i++) {
            Check.due(promise, name + " as the " + i + "th call", call.of(x), due);
        }
    }

    private static void refused() {
        BlockedCars x = ready();
        int due = 0;
        for (int i = callsToBeReady() + 1; i < CALLS; i += 2) {
            Check.illegal(9, "another what, call " + i, () -> x.told(10));
            due++;
            Check.due(33, "how many were refused, call " + (i + 1), x.status(1), due);
        }
        BlockedCars y = new BlockedCars();
        for (int i = 1; i < CALLS; i++) {
            Check.noSuch(15, "no such CAR, call " + i, () -> y.ahead(0));
        }
        Check.due(33, "how many were refused, the last call", y.status(0), CALLS - 1);
    }

    private static void fedAndRead() {
        BlockedCars x = new BlockedCars();
        int[] w = Check.words("lane 4;car 1 2 3;");
        for (int i = 0; i < CALLS / 4; i++) {
            Check.due(2, "feed, round " + i, x.feed(w[0], w[1], w[2], w[3], w[4]), 20);
            Check.due(3, "yard, round " + i, x.yard(17), 1);
            Check.due(6, "spots, round " + i, x.spots(0), 0);
            Check.due(4, "law, round " + i, x.law(0), -9);
        }
    }

    private static void workedAndUndone() {
        BlockedCars x = Check.with("lane 1;lane 1;car 1 1 0;");
        int[] w = Check.words("park 0 0;move 0 0 1;");
        for (int i = 0; i < 100; i++) {
            x.feed(w[0], w[1], w[2], w[3], w[4]);
            Check.due(5, "work, round " + i, x.work(20), 2);
            Check.due(9, "SECONDS, round " + i, x.told(3), 10);
            Check.due(9, "moves, round " + i, x.told(4), 1);
            Check.due(8, "undo, round " + i, x.undo(), 0);
        }
        Check.due(9, "all is undone", x.told(3) + x.told(4) + x.told(2), 0);
    }

    private static void keptAndRestored() {
        BlockedCars x = ready();
        for (int i = 0; i < 100; i++) {
            Check.due(31, "image, round " + i, x.image(), 1);
            Check.due(5, "work, round " + i, x.work(0), 0);
            Check.due(32, "restore, round " + i, x.restore(), 0);
            Check.due(34, "works, round " + i, x.count(2), 1);
        }
        Check.due(32, "as in the IMAGE", x.told(2), 63);
    }
}
