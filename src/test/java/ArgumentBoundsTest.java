import java.util.ArrayList;
import java.util.List;
import java.util.TreeSet;

/**
 * Promises 9 to 34: of each argument the last value that is taken and the first that is not, on both sides; which exception
 * comes, if two would; and that a refused call is counted and changes nothing else.
 */
public final class ArgumentBoundsTest {
    private static final int CALLS_OF_ONE = 100;
    private static final int MOST_AT_ONCE = 300;

    interface Asked {
        long by(BlockedCars x, int[] a);
    }

    /** By argument: n no such LANE or CAR, i IllegalArgumentException, - any value is taken. */
    record Call(int promise, String name, String kinds, int[][] ranges, Asked asked) {
        long due(int[] args) {
            boolean isIllegal = false;
            for (int i = 0; i < args.length; i++) {
                boolean isWithin = args[i] >= ranges[i][0] && args[i] <= ranges[i][1];
                if (!isWithin && kinds.charAt(i) == 'n') {
                    return Check.NO_SUCH;
                }
                isIllegal |= !isWithin && kinds.charAt(i) == 'i';
            }
            return isIllegal ? Check.ILLEGAL : 0;
        }

        String told(int[] args) {
            StringBuilder s = new StringBuilder(name + "(");
            for (int i = 0; i < args.length; i++) {
                s.append(i == 0 ? "" : ", ").append(args[i]);
            }
            return s.append(")").toString();
        }
    }

    /** A yard with its LANES and CARS, in which something was done. */
    record Place(int lanes, int cars, String yard, String... works) {
        BlockedCars made() {
            BlockedCars x = Check.with(yard, works);
            if (cars > 0) {
                x.image();
                Check.law(x, "hour+own+moved");
            }
            if (lanes > 0) {
                Check.spots(x, "0 0 1;");
            }
            Check.law(x, "1+?");
            Check.put(x, "lane 2;car 1 3 4;");
            return x;
        }
    }

    public static void main(String[] args) {
        List<Place> places = new ArrayList<>();
        places.add(new Place(0, 0, ""));
        places.add(new Place(1, 0, "lane 4;"));
        places.add(new Place(0, 1, "car 1 1 1;"));
        places.add(new Place(1, 1, "lane 1;car 1 1 1;", "park 0 0;"));
        places.add(new Place(2, 4, "lane 3;lane 2;car 1 8 2;car 1 7 0;car 1 9 5;car 2 6 1;", "park 0 0;park 1 0;park 2 0;", "swap;leave 0;"));
        places.add(new Place(3, 6, "lane 4;lane 4;lane 4;car 2 1 0;car 1 2 1;car 2 3 2;car 1 4 3;car 2 5 4;car 2 6 5;",
                "swap;swap;", "move 0 1 0;move 5 0 1;leave 2;"));
        for (Place place : places) {
            for (Call call : calls(place.lanes, place.cars)) {
                ask(place, call);
            }
        }
        noneForOthers();
        counted();
        Check.end("ArgumentBoundsTest");
    }

    private static int[] to(int least, int greatest) {
        return new int[] {least, greatest};
    }

    private static int[][] of(int[]... ranges) {
        return ranges;
    }

    private static List<Call> calls(int lanes, int cars) {
        int[] lane = to(0, lanes - 1);
        int[] car = to(0, cars - 1);
        int[] bits = to(0, (1 << cars) - 1);
        int[] two = to(0, 1);
        int[] any = to(Integer.MIN_VALUE, Integer.MAX_VALUE);
        List<Call> calls = new ArrayList<>();
        calls.add(new Call(9, "told", "i", of(to(0, 9)), (x, a) -> x.told(a[0])));
        calls.add(new Call(10, "lane", "ni", of(lane, to(0, 4)), (x, a) -> x.lane(a[0], a[1])));
        calls.add(new Call(11, "car", "ni", of(car, to(0, 6)), (x, a) -> x.car(a[0], a[1])));
        calls.add(new Call(12, "on", "n-", of(lane, to(0, 3)), (x, a) -> x.on(a[0], a[1])));
        calls.add(new Call(13, "seconds", "ni", of(car, two), (x, a) -> x.seconds(a[0], a[1])));
        calls.add(new Call(14, "would", "iiiiiiii", of(to(1, 2), to(0, 9), to(0, 99), to(0, 5), to(0, 2), to(0, 4), to(0, 999), two),
                (x, a) -> x.would(a[0], a[1], a[2], a[3], a[4], a[5], a[6], a[7])));
        calls.add(new Call(15, "ahead", "n", of(car), (x, a) -> x.ahead(a[0])));
        calls.add(new Call(16, "frees", "ni", of(car, two), (x, a) -> x.frees(a[0], a[1])));
        calls.add(new Call(17, "morning", "i", of(two), (x, a) -> x.morning(a[0])));
        calls.add(new Call(18, "corner", "n", of(car), (x, a) -> x.corner(a[0])));
        calls.add(new Call(19, "goes", "n", of(car), (x, a) -> x.goes(a[0]) ? 1 : 0));
        calls.add(new Call(20, "evening", "ii", of(bits, two), (x, a) -> x.evening(a[0], a[1])));
        calls.add(new Call(21, "sure", "nii", of(car, to(0, 16), two), (x, a) -> x.sure(a[0], a[1], a[2])));
        calls.add(new Call(22, "leaks", "i", of(to(0, 2)), (x, a) -> x.leaks(a[0])));
        calls.add(new Call(23, "look", "i", of(two), (x, a) -> x.look(a[0])));
        calls.add(new Call(24, "fronts", "iiii", of(to(0, 9), to(0, 40), to(0, 40), to(0, 2)),
                (x, a) -> x.fronts(a[0], a[1], a[2], a[3])));
        calls.add(new Call(25, "pays", "nii", of(car, bits, to(0, 999)), (x, a) -> x.pays(a[0], a[1], a[2])));
        calls.add(new Call(26, "spare", "i", of(to(0, 20)), (x, a) -> x.spare(a[0])));
        calls.add(new Call(27, "next", "i", of(two), (x, a) -> x.next(a[0])));
        calls.add(new Call(28, "most", "i", of(two), (x, a) -> x.most(a[0])));
        calls.add(new Call(29, "days", "-iii", of(any, to(1, 60), to(0, 16), to(0, 3)), (x, a) -> x.days(a[0], a[1], a[2], a[3])));
        calls.add(new Call(30, "span", "-iiiii", of(any, to(1, 20), to(1, 60), to(0, 16), to(0, 2), car),
                (x, a) -> x.span(a[0], a[1], a[2], a[3], a[4], a[5])));
        calls.add(new Call(33, "status", "-", of(any), (x, a) -> x.status(a[0])));
        calls.add(new Call(34, "count", "-", of(any), (x, a) -> x.count(a[0])));
        return calls;
    }

    private static List<Integer> valuesOf(int[] range) {
        TreeSet<Integer> values = new TreeSet<>(List.of(Integer.MIN_VALUE, -1, 0, Integer.MAX_VALUE, range[0], range[1]));
        values.add(Math.max(range[0], Integer.MIN_VALUE + 1) - 1);
        values.add(Math.min(range[1], Integer.MAX_VALUE - 1) + 1);
        return new ArrayList<>(values);
    }

    /** All values of all arguments, or, if these are too many, of each two with the others in the midst. */
    private static List<int[]> argumentsOf(Call call) {
        List<List<Integer>> values = new ArrayList<>();
        int many = 1;
        for (int[] range : call.ranges) {
            values.add(valuesOf(range));
            many *= values.get(values.size() - 1).size();
        }
        List<int[]> rows = new ArrayList<>();
        if (many <= MOST_AT_ONCE) {
            spread(values, 0, new int[values.size()], rows);
            return rows;
        }
        for (int i = 0; i < values.size(); i++) {
            for (int j = i + 1; j < values.size(); j++) {
                for (int one : values.get(i)) {
                    for (int other : values.get(j)) {
                        int[] row = new int[values.size()];
                        for (int k = 0; k < row.length; k++) {
                            row[k] = (int) (((long) call.ranges[k][0] + call.ranges[k][1]) / 2);
                        }
                        row[i] = one;
                        row[j] = other;
                        rows.add(row);
                    }
                }
            }
        }
        return rows;
    }

    private static void spread(List<List<Integer>> values, int at, int[] row, List<int[]> rows) {
        if (at == row.length) {
            rows.add(row.clone());
            return;
        }
        for (int value : values.get(at)) {
            row[at] = value;
            spread(values, at + 1, row, rows);
        }
    }

    private static void ask(Place place, Call call) {
        BlockedCars x = place.made();
        int[] refused = new int[2];
        int asked = 0;
        for (int[] args : argumentsOf(call)) {
            if (asked == CALLS_OF_ONE) {
                changedNothing(place, call, x, refused);
                x = place.made();
                refused = new int[2];
                asked = 0;
            }
            asked++;
            BlockedCars now = x;
            long got = Check.outcome(() -> call.asked.by(now, args));
            long kind = got == Check.NO_SUCH || got == Check.ILLEGAL ? got : 0;
            long due = call.due(args);
            Check.due(call.promise, call.told(args) + " with " + place.lanes + " LANES, " + place.cars + " CARS", kind, due);
            refused[0] += due == Check.NO_SUCH ? 1 : 0;
            refused[1] += due == Check.ILLEGAL ? 1 : 0;
        }
        changedNothing(place, call, x, refused);
    }

    private static void changedNothing(Place place, Call call, BlockedCars x, int[] refused) {
        Check.due(33, "how many calls of " + call.name + " were refused: NoSuchElementException", x.status(0), refused[0]);
        Check.due(33, "how many calls of " + call.name + " were refused: IllegalArgumentException", x.status(1), refused[1]);
        Facts.same(call.promise, call.name + ": taken or refused, nothing stays changed", place.made(), x, "status(0)", "status(1)");
    }

    private static void noneForOthers() {
        BlockedCars x = Check.with("lane 1;car 1 1 1;", "park 0 0;");
        for (int what : new int[] {Integer.MIN_VALUE, -2, -1, 2, 3, Integer.MAX_VALUE}) {
            Check.due(33, "NONE for others: status(" + what + ")", x.status(what), -1);
        }
        for (int what : new int[] {Integer.MIN_VALUE, -2, -1, 3, 4, Integer.MAX_VALUE}) {
            Check.due(34, "NONE for others: count(" + what + ")", x.count(what), -1);
        }
        Check.due(33, "that is no refused call", x.status(0) + x.status(1), 0);
    }

    /** What answers NONE, -1, -20 or a FAULT is not refused by an exception, so it is not counted. */
    private static void counted() {
        BlockedCars x = Check.with("lane 1;lane 1;car 1 1 1;");
        x.undo();
        x.restore();
        Check.yard(x, "?");
        Check.law(x, "");
        Check.work(x, "park 1 0;");
        Check.spots(x, "9 9 9;");
        Check.work(x, "leave 0;leave 1;move 0 0 1;");
        for (int i = x.count(2); i <= 16; i++) {
            x.work(0);
        }
        for (int i = 0; i < 4; i++) {
            x.image();
        }
        for (int i = 0; i <= 30; i++) {
            x.feed(0, 0, 0, 0, 0);
        }
        x.on(0, 9);
        x.status(9);
        x.count(9);
        x.frees(0, 0);
        Check.due(33, "NoSuchElementException: none", x.status(0), 0);
        Check.due(33, "IllegalArgumentException: none", x.status(1), 0);
        Check.illegal(3, "n", () -> x.yard(601));
        Check.illegal(4, "n", () -> x.law(151));
        Check.illegal(5, "n", () -> x.work(151));
        Check.illegal(6, "n", () -> x.spots(61));
        Check.noSuch(10, "no such LANE, and another what", () -> x.lane(2, 5));
        Check.due(33, "NoSuchElementException: one", x.status(0), 1);
        Check.due(33, "IllegalArgumentException: four", x.status(1), 4);
        x.yard(0);
        Check.due(33, "a new YARD keeps them", 10 * x.status(0) + x.status(1), 14);
        Check.due(33, "another object has its own", new BlockedCars().status(1), 0);
    }
}
