import java.math.BigInteger;

/** Promises 1 and 9 to 30, and part 3: what is answered where nothing stands, nothing was told, or nothing more fits. */
public final class AnswerBoundsTest {
    private static final String SIX = "lane 4;lane 4;lane 4;car 1 1 0;car 1 2 0;car 1 3 0;car 1 4 0;car 1 5 0;car 1 6 0;";
    /** From the wall: 0, 1, 2, 3 in LANE 0; 4, 5 in LANE 1. */
    private static final String STAND = "park 0 0;park 1 0;park 2 0;park 3 0;park 4 1;park 5 1;";

    public static void main(String[] args) {
        newObject();
        told();
        lane();
        car();
        on();
        seconds();
        would();
        ahead();
        frees();
        freesFirst();
        morning();
        corner();
        goes();
        evening();
        eveningDigits();
        sure();
        leaks();
        look();
        fronts();
        pays();
        spare();
        next();
        most();
        days();
        draws();
        span();
        Check.end("AnswerBoundsTest");
    }

    private static void newObject() {
        BlockedCars x = new BlockedCars();
        for (int what = 0; what <= 9; what++) {
            Check.due(1, "a YARD without CLAUSES: told(" + what + ")", x.told(what), 0);
        }
        for (int what = 0; what <= 2; what++) {
            Check.due(1, "no IMAGES, bytes, WORKS: count(" + what + ")", x.count(what), 0);
        }
        Check.due(1, "no FAULT", x.fault(), -1);
        Check.due(1, "no call was refused", x.status(0) + x.status(1), 0);
        Check.due(1, "nothing to undo", x.undo(), -1);
        Check.due(1, "no IMAGE", x.restore(), -1);
        Check.noSuch(1, "no LANE", () -> x.lane(0, 0));
        Check.noSuch(1, "no CAR", () -> x.car(0, 0));
        Check.due(1, "an IMAGE can be made", x.image(), 1);
        Check.due(1, "a WORK can be done", x.work(0), 0);
    }

    private static void told() {
        BlockedCars x = Check.with(SIX);
        Check.due(9, "0 LANES: 3 at most", x.told(0), 3);
        Check.due(9, "1 CARS: 6 at most", x.told(1), 6);
        Check.due(9, "2 none is in", x.told(2), 0);
        Check.due(9, "8 ROOM: all of it", x.told(8), 12);
        Check.work(x, STAND);
        Check.due(9, "2 all are in", x.told(2), 63);
        Check.due(9, "5 PAIRS: 6 and 1", x.told(5), 7);
        Check.due(9, "8 ROOM", x.told(8), 6);
        BlockedCars full = Check.with("lane 2;lane 1;car 2 9 0;car 1 1 0;", "park 0 0;park 1 1;");
        Check.due(9, "8 ROOM: none", full.told(8), 0);
        Check.due(9, "5 PAIRS are in one LANE", full.told(5), 0);
        BlockedCars alike = Check.with("lane 2;lane 2;car 1 5 0;car 1 5 0;", "park 0 0;park 1 0;");
        Check.due(9, "5 PAIRS by T, then numbers: the higher one leaves later", alike.told(5), 1);
        BlockedCars other = Check.with("lane 2;lane 2;car 1 5 0;car 1 5 0;", "park 1 0;park 0 0;");
        Check.due(9, "5 PAIRS by T, then numbers: the lower one leaves first", other.told(5), 0);
        BlockedCars later = Check.with("lane 2;car 1 6 0;car 1 5 0;", "park 1 0;park 0 0;");
        Check.due(9, "5 PAIRS by T ahead of numbers", later.told(5), 1);
        Check.due(9, "4 no moves", x.told(4), 0);
        Check.due(9, "9 no pence", x.told(9), 0);
    }

    private static void lane() {
        BlockedCars x = Check.with("lane 4;lane 1;lane 2;car 1 1 0;car 1 2 0;car 2 3 0;", "park 0 0;park 1 0;park 2 0;");
        Check.due(10, "0 its places", 100 * x.lane(0, 0) + 10 * x.lane(1, 0) + x.lane(2, 0), 412);
        Check.due(10, "1 ROOM of a full one", x.lane(0, 1), 0);
        Check.due(10, "1 ROOM of an empty one", x.lane(2, 1), 2);
        Check.due(10, "2 FRONT", x.lane(0, 2), 2);
        Check.due(10, "2 NONE: it is empty", x.lane(1, 2), -1);
        Check.due(10, "3 CARS in it", x.lane(0, 3), 7);
        Check.due(10, "3 none in it", x.lane(1, 3), 0);
        Check.due(10, "4 the CAR at the wall", x.lane(0, 4), 0);
        Check.due(10, "4 NONE", x.lane(1, 4), -1);
        Check.work(x, "leave 0;leave 0;");
        Check.due(10, "one alone is FRONT", x.lane(0, 2), 0);
        Check.due(10, "one alone is at the wall", x.lane(0, 4), 0);
        Check.due(10, "1 ROOM beside one", x.lane(0, 1), 3);
        BlockedCars last = Check.with("lane 1;lane 1;lane 1;car 1 1 0;car 1 1 0;car 1 1 0;car 1 1 0;car 1 1 0;car 1 1 0;", "park 5 2;");
        Check.due(10, "the last CAR in the last LANE", last.lane(2, 3), 32);
        Check.due(10, "the last CAR is FRONT", last.lane(2, 2), 5);
        Check.due(10, "the last CAR is at the wall", last.lane(2, 4), 5);
    }

    private static void car() {
        BlockedCars x = Check.with("lane 4;lane 4;car 2 0 0;car 2 99 9;car 1 50 5;key 0 1;key 0 2;key 2 0;", "park 0 0;park 1 0;park 2 1;");
        Check.due(11, "0 L", 10 * x.car(0, 0) + x.car(2, 0), 21);
        Check.due(11, "1 T", 100 * x.car(0, 1) + x.car(1, 1), 99);
        Check.due(11, "2 S", 10 * x.car(0, 2) + x.car(1, 2), 9);
        Check.due(11, "3 the LANE", 10 * x.car(1, 3) + x.car(2, 3), 1);
        Check.due(11, "4 the first place, at the wall", x.car(0, 4), 0);
        Check.due(11, "4 the first place of two", x.car(1, 4), 2);
        Check.due(11, "4 the first place of another LANE", x.car(2, 4), 0);
        Check.due(11, "6 keys of all", x.car(0, 6), 7);
        Check.due(11, "6 his own alone", x.car(1, 6), 2);
        Check.due(11, "6 his own, too", x.car(2, 6), 5);
        Check.work(x, "leave 1;");
        Check.due(11, "3 NONE: out", x.car(2, 3), -1);
        Check.due(11, "4 NONE: out", x.car(2, 4), -1);
        Check.due(11, "the last place", Check.with(SIX, STAND).car(3, 4), 3);
        Check.due(11, "the last LANE", Check.with(SIX, "park 5 2;").car(5, 3), 2);
    }

    private static void on() {
        BlockedCars x = Check.with("lane 4;lane 2;lane 3;car 1 1 0;car 2 2 0;car 1 3 0;car 2 4 0;", "park 0 0;park 1 0;park 2 0;park 3 1;");
        int[][] due = {{0, 1, 1, 2}, {3, 3, -1, -1}, {-1, -1, -1, -1}};
        for (int lane = 0; lane < 3; lane++) {
            for (int place = 0; place < 4; place++) {
                Check.due(12, "the CAR on place " + place + " of LANE " + lane, x.on(lane, place), due[lane][place]);
            }
            for (int place : new int[] {-1, 4, 5, 1000, Integer.MIN_VALUE, Integer.MAX_VALUE, Integer.MIN_VALUE + 1}) {
                Check.due(12, "NONE: nor such a place: " + place, x.on(lane, place), -1);
            }
        }
        Check.due(33, "that is no refused call", x.status(0) + x.status(1), 0);
        Check.noSuch(12, "no such LANE, nor such a place", () -> x.on(3, 9));
    }

    private static void seconds() {
        BlockedCars x = Check.with(SIX, STAND);
        Check.law(x, "lane*20+cars*4+own*2+1");
        Check.due(13, "lane, cars: where it is", x.seconds(0, 0), 17);
        Check.due(13, "its owner moves it", x.seconds(0, 1), 19);
        Check.due(13, "two in LANE 1", x.seconds(4, 0), 29);
        Check.work(x, "leave 1;leave 1;");
        Check.due(13, "out: both 0", x.seconds(4, 0), 1);
        Check.due(13, "out: both 0, its owner", x.seconds(4, 1), 3);
        Check.law(x, "car*10+hour+length+tries*50");
        Check.due(13, "the last CAR", x.seconds(5, 0), 57);
        Check.law(x, "0-1");
        Check.due(13, "1 at least", x.seconds(5, 0), 1);
        Check.law(x, "100");
        Check.due(13, "99 at most", x.seconds(5, 0), 99);
        BlockedCars y = Check.with("lane 1;lane 1;car 1 1 0;", "park 0 0;move 0 0 1;move 0 1 0;move 0 0 1;");
        Check.law(y, "moved*10+lane");
        Check.due(13, "moved by now", y.seconds(0, 0), 31);
        y.undo();
        Check.due(13, "undone: neither moved nor in", y.seconds(0, 0), 1);
    }

    private static void would() {
        BlockedCars x = new BlockedCars();
        String[] words = {"length", "tries", "hour", "car", "lane", "cars", "moved", "own"};
        int[] least = {1, 0, 0, 0, 0, 0, 0, 0};
        int[] most = {2, 9, 99, 5, 2, 4, 999, 1};
        for (int i = 0; i < 8; i++) {
            Check.law(x, words[i] + "+0");
            int[] low = most.clone();
            low[i] = least[i];
            int[] high = least.clone();
            high[i] = most[i];
            Check.due(14, "the least " + words[i], would(x, low), Math.max(1, least[i]));
            Check.due(14, "the most " + words[i], would(x, high), Math.min(99, most[i]));
        }
        Check.due(14, "without CARS and LANES", x.told(0) + x.told(1), 0);
        Check.law(x, "moved-900");
        Check.due(14, "moved 999", x.would(1, 0, 0, 0, 0, 0, 999, 0), 99);
        Check.due(14, "moved 998", x.would(1, 0, 0, 0, 0, 0, 998, 0), 98);
    }

    private static int would(BlockedCars x, int[] f) {
        return x.would(f[0], f[1], f[2], f[3], f[4], f[5], f[6], f[7]);
    }

    private static void ahead() {
        BlockedCars x = Check.with(SIX, STAND);
        int[] due = {14, 12, 8, 0, 32, 0};
        for (int car = 0; car < 6; car++) {
            Check.due(15, "CARS between it and the gate", x.ahead(car), due[car]);
        }
        Check.work(x, "leave 1;");
        Check.due(15, "0: it is FRONT", x.ahead(4), 0);
        Check.due(15, "0: out", x.ahead(5), 0);
    }

    private static void frees() {
        BlockedCars one = Check.with("lane 4;car 1 1 0;car 1 2 0;car 1 3 0;", "park 0 0;park 1 0;");
        Check.due(16, "0: it is FRONT yet", one.frees(1, 0), 0);
        Check.due(16, "FRONT yet: NONE is first", one.frees(1, 1), -1);
        Check.due(16, "NONE: there is no other LANE", one.frees(0, 0), -1);
        Check.due(16, "NONE: no first", one.frees(0, 1), -1);
        Check.due(16, "NONE: out", one.frees(2, 0), -1);
        Check.due(16, "out: no first", one.frees(2, 1), -1);
        String two = "car 1 1 0;car 2 2 0;";
        Check.due(16, "two places are just the ROOM", Check.with("lane 3;lane 2;" + two, "park 0 0;park 1 0;").frees(0, 0), 1);
        Check.due(16, "one place is not", Check.with("lane 3;lane 1;" + two, "park 0 0;park 1 0;").frees(0, 0), -1);
        Check.due(16, "nor are two of one", Check.with("lane 3;lane 1;lane 1;" + two, "park 0 0;park 1 0;").frees(0, 0), -1);
        BlockedCars full = Check.with("lane 2;lane 2;car 1 1 0;car 1 2 0;car 1 3 0;car 1 4 0;", "park 0 0;park 1 0;park 2 1;park 3 1;");
        Check.due(16, "none leaves: a full yard", full.frees(0, 0), -1);
        Check.due(16, "a full yard: FRONT yet", full.frees(1, 0), 0);
        BlockedCars three = Check.with(SIX, STAND);
        Check.due(16, "three moves", three.frees(0, 0), 3);
        Check.due(16, "keys don't count", three.goes(0) ? 1 : 0, 0);
        Check.due(16, "nothing stays changed", three.ahead(0), 14);
    }

    private static void freesFirst() {
        String[][] yards = {
            {"lane 2;lane 1;lane 1;", "park 0 0;park 1 0;park 2 2;", "1"}, {"lane 2;lane 1;lane 1;", "park 0 0;park 1 0;park 2 1;", "2"},
            {"lane 1;lane 2;lane 1;", "park 0 1;park 1 1;park 2 2;", "10"}, {"lane 1;lane 2;lane 1;", "park 0 1;park 1 1;park 2 0;", "12"},
            {"lane 1;lane 1;lane 2;", "park 0 2;park 1 2;park 2 1;", "20"}, {"lane 1;lane 1;lane 2;", "park 0 2;park 1 2;park 2 0;", "21"}};
        for (String[] yard : yards) {
            BlockedCars x = Check.with(yard[0] + "car 1 1 0;car 1 2 0;car 1 3 0;", yard[1]);
            Check.due(16, "10 times the LANE from which and that to which", x.frees(0, 1), Integer.parseInt(yard[2]));
            Check.due(16, "one move", x.frees(0, 0), 1);
            Check.due(17, "the first of MORNING likewise", x.morning(1), Integer.parseInt(yard[2]));
        }
        BlockedCars alike = Check.with("lane 1;lane 1;lane 2;car 1 1 0;car 1 2 0;", "park 0 2;park 1 2;");
        Check.due(16, "of alike ways the least", alike.frees(0, 1), 20);
        Check.due(17, "of alike ways the least", alike.morning(1), 20);
        // 3 has two places; 2 must leave LANE 1 for LANE 2 first, or else 3 finds no ROOM
        BlockedCars way = Check.with("lane 3;lane 2;lane 1;car 1 1 0;car 1 3 0;car 2 2 0;", "park 0 0;park 2 0;park 1 1;");
        Check.due(16, "a first move that is not from its LANE", way.frees(0, 1), 12);
        Check.due(16, "by which the next one can be", way.frees(0, 0), 2);
    }

    private static void morning() {
        BlockedCars none = Check.with(SIX);
        Check.due(17, "0: none is in", none.morning(0), 0);
        Check.due(17, "-2: none is needed", none.morning(1), -2);
        BlockedCars easy = Check.with(SIX, "park 5 0;park 4 0;park 3 1;park 0 0;");
        Check.due(17, "0: all by their turn", easy.morning(0), 0);
        Check.due(17, "-2: none is needed", easy.morning(1), -2);
        BlockedCars stuck = Check.with("lane 2;lane 1;car 1 1 0;car 1 2 0;car 1 3 0;", "park 0 0;park 1 0;park 2 1;");
        Check.due(17, "NONE: it can't be", stuck.morning(0), -1);
        Check.due(17, "NONE: nor is there a first", stuck.morning(1), -1);
        Check.due(17, "NONE: a single LANE", Check.with("lane 4;car 1 1 0;car 1 2 0;", "park 0 0;park 1 0;").morning(0), -1);
        Check.due(17, "of alike ones by numbers", Check.with("lane 4;car 1 1 0;car 1 1 0;", "park 1 0;park 0 0;").morning(0), 0);
        Check.due(17, "of alike ones by numbers, not the other way", Check.with("lane 4;car 1 1 0;car 1 1 0;", "park 0 0;park 1 0;").morning(0), -1);
        // 0 leaves LANE 1 before 2 is moved there
        BlockedCars after = Check.with("lane 3;lane 1;car 1 1 0;car 1 2 0;car 1 3 0;", "park 0 1;park 1 0;park 2 0;");
        Check.due(17, "ROOM of those that have left", after.morning(0), 1);
        Check.due(17, "the first, behind who leaves at once", after.morning(1), 1);
        BlockedCars far = Check.with("lane 4;lane 4;car 1 8 0;car 1 5 0;car 1 9 0;car 1 8 0;car 1 4 0;car 1 1 0;",
                "park 1 1;park 4 0;park 5 1;park 3 1;park 0 0;park 2 1;");
        Check.due(17, "eleven moves", far.morning(0), 11);
        Check.due(17, "the first of eleven", far.morning(1), 10);
        Check.due(17, "nothing stays changed", far.told(4), 0);
        Check.due(26, "eleven are eleven or fewer", far.spare(11), 0);
        Check.due(26, "ten can't be, whatever places there are", far.spare(10), -1);
    }

    private static void corner() {
        BlockedCars x = Check.with(SIX, STAND);
        Check.due(17, "3 and 1", x.morning(0), 4);
        for (int car = 0; car < 6; car++) {
            Check.due(18, "one less without " + car, x.corner(car), 1);
        }
        BlockedCars y = Check.with("lane 2;lane 1;car 1 1 0;car 1 2 0;car 1 3 0;", "park 1 0;park 0 0;");
        Check.due(18, "0: no less", y.corner(0), 0);
        Check.due(18, "-2: it is out", y.corner(2), -2);
        Check.due(18, "-2: all are out", Check.with(SIX).corner(5), -2);
        BlockedCars stuck = Check.with("lane 2;car 1 1 0;car 1 2 0;car 1 3 0;", "park 0 0;park 1 0;");
        Check.due(18, "NONE: it can't be with it", stuck.corner(0), -1);
        Check.due(18, "NONE: it can't be with it, though without it", stuck.corner(1), -1);
        Check.due(18, "-2 ahead of NONE: it is out", stuck.corner(2), -2);
        BlockedCars more = Check.with("lane 4;lane 4;car 1 1 0;car 1 5 0;car 1 1 0;car 1 8 0;car 1 0 0;",
                "park 4 0;park 1 0;park 0 1;park 2 0;park 3 0;");
        Check.due(18, "six less", more.corner(4), 6);
        Check.due(18, "nothing stays changed", more.told(2), 31);
        // 0 leaves at once; then 2 to LANE 0 and 3 to LANE 2: a place more in LANE 0 would do for 3
        BlockedCars other = Check.with("lane 1;lane 3;lane 2;car 1 0 0;car 1 1 0;car 1 4 0;car 2 2 0;", "park 0 0;park 1 1;park 2 2;park 3 1;");
        Check.due(18, "both by the places that there are", other.corner(0), 0);
        Check.due(18, "two moves less", other.corner(1), 2);
        BlockedCars just = Check.with("lane 1;lane 2;lane 1;car 1 1 0;car 1 2 0;car 1 3 0;", "park 0 1;park 1 1;park 2 2;");
        Check.due(18, "just the ROOM in LANE 0", just.corner(1), 1);
        Check.due(18, "just the ROOM in LANE 0, without another", just.corner(2), 0);
        BlockedCars full = Check.with("lane 1;lane 2;car 1 1 0;car 1 2 0;car 1 3 0;", "park 2 0;park 0 1;park 1 1;");
        Check.due(18, "NONE: LANE 0 is full", full.corner(2), -1);
        BlockedCars nearer = Check.with("lane 3;lane 1;car 2 1 0;car 1 2 0;", "park 0 0;park 1 0;");
        Check.due(18, "those ahead of it stand nearer to the wall then", nearer.corner(0), 1);
        Check.due(18, "where they stand now they stay", nearer.car(1, 4), 2);
    }

    private static void goes() {
        String cars = "car 1 1 0;car 1 2 0;car 2 3 0;";
        String in = "park 0 0;park 1 0;park 2 0;";
        Check.due(19, "all keys, just the ROOM", goes("lane 4;lane 3;" + cars + "key 0 1;key 0 2;", in, 0), 1);
        Check.due(19, "all keys, one place too few", goes("lane 4;lane 2;" + cars + "key 0 1;key 0 2;", in, 0), 0);
        Check.due(19, "in other LANES, each its own", goes("lane 4;lane 2;lane 1;" + cars + "key 0 1;key 0 2;", in, 0), 1);
        Check.due(19, "all have not all keys here: one is missing", goes("lane 4;lane 3;" + cars + "key 0 1;", in, 0), 0);
        Check.due(19, "all have not all keys here: the other is missing", goes("lane 4;lane 3;" + cars + "key 0 2;", in, 0), 0);
        Check.due(19, "a key of one behind it is not needed", goes("lane 4;lane 3;" + cars + "key 1 2;", in, 1), 1);
        Check.due(19, "the others' keys don't help", goes("lane 4;lane 3;" + cars + "key 1 2;key 2 1;", in, 0), 0);
        Check.due(19, "FRONT goes", goes("lane 4;" + cars, in, 2), 1);
        Check.due(19, "no other LANE", goes("lane 4;" + cars + "key 1 2;", in, 1), 0);
        Check.due(19, "out: true", goes("lane 4;" + cars, "park 0 0;", 2), 1);
        Check.due(19, "out: true, without LANES", goes(cars, "", 2), 1);
        // 1 takes LANE 1 of two places first, so 3 (two places) finds none; another way it would
        Check.due(19, "each to the first other LANE that has ROOM for it",
                goes("lane 4;lane 2;lane 1;car 1 1 0;car 1 2 0;car 2 3 0;key 0 1;key 0 2;", "park 0 0;park 2 0;park 1 0;", 0), 0);
        Check.due(19, "FRONT first: two places, then one",
                goes("lane 4;lane 1;lane 2;car 1 1 0;car 1 2 0;car 2 3 0;key 0 1;key 0 2;", "park 0 0;park 1 0;park 2 0;", 0), 1);
        String two = "car 1 1 0;car 1 2 0;car 1 3 0;key 0 1;";
        Check.due(19, "from LANE 1 to LANE 0", goes("lane 1;lane 2;lane 1;" + two, "park 0 1;park 1 1;park 2 2;", 0), 1);
        Check.due(19, "from LANE 1 to LANE 2", goes("lane 1;lane 2;lane 1;" + two, "park 0 1;park 1 1;park 2 0;", 0), 1);
        Check.due(19, "from LANE 2 to LANE 0", goes("lane 1;lane 1;lane 2;" + two, "park 0 2;park 1 2;park 2 1;", 0), 1);
        Check.due(19, "from LANE 2 to LANE 1", goes("lane 1;lane 1;lane 2;" + two, "park 0 2;park 1 2;park 2 0;", 0), 1);
        Check.due(19, "not to its own LANE", goes("lane 4;lane 1;" + two, "park 0 0;park 1 0;park 2 1;", 0), 0);
        Check.due(19, "others are not moved out of the way",
                goes("lane 2;lane 1;lane 1;car 1 1 0;car 1 2 0;car 1 3 0;car 1 4 0;key 0 1;key 0 2;key 0 3;", "park 0 0;park 1 0;park 2 1;park 3 2;", 0), 0);
    }

    private static int goes(String yard, String work, int car) {
        return Check.with(yard, work).goes(car) ? 1 : 0;
    }

    private static void evening(String sentence, String yard, int cars, int pairs, int digits) {
        BlockedCars x = Check.with(yard);
        Check.due(20, sentence + ": the PAIRS", x.evening(cars, 0), pairs);
        Check.due(20, sentence + ": the LANES", x.evening(cars, 1), digits);
    }

    private static void evening() {
        evening("no CARS told, none there", "", 0, 0, 0);
        evening("no CARS told", SIX, 0, 0, 0);
        evening("no LANES, none told", "car 1 1 0;", 0, 0, 0);
        evening("NONE: no LANES", "car 1 1 0;", 1, -1, -1);
        evening("just the ROOM", "lane 2;lane 1;car 1 1 0;car 2 1 0;", 3, 0, 4);
        evening("NONE: one too many", "lane 2;lane 1;car 1 1 0;car 2 1 0;car 1 1 0;", 7, -1, -1);
        evening("that one is not told", "lane 2;lane 1;car 1 1 0;car 2 1 0;car 1 1 0;", 3, 0, 4);
        evening("NONE: two places of one", "lane 1;lane 1;car 2 1 0;", 1, -1, -1);
        evening("PAIRS that can't be helped", "lane 4;car 1 5 0;car 1 5 0;car 1 5 0;car 1 5 0;", 15, 6, 0);
        evening("one PAIR", "lane 2;car 1 5 0;car 1 5 0;", 3, 1, 0);
        evening("three PAIRS", "lane 4;car 1 5 0;car 1 6 0;car 1 7 0;", 7, 3, 0);
        evening("one PAIR in the last LANE", "lane 1;lane 1;lane 4;car 2 5 0;car 2 5 0;", 3, 1, 10);
        evening("no PAIRS, if those who come later go first", "lane 4;car 1 5 0;car 1 4 0;car 1 3 0;car 1 2 0;", 15, 0, 0);
        evening("of alike T by numbers", "lane 2;lane 2;car 1 5 0;car 1 5 0;", 3, 0, 1);
        evening("fewest PAIRS ahead of the first LANE", "lane 3;lane 1;car 1 5 0;car 1 6 0;car 1 4 0;", 7, 0, 4);
        BlockedCars x = Check.with(SIX, STAND);
        Check.due(20, "to the empty yard", x.evening(63, 0), Check.with(SIX).evening(63, 0));
        Check.due(20, "nothing stays changed", x.told(2), 63);
        Check.illegal(20, "bits of no CARS: the next one", () -> x.evening(64, 0));
        Check.illegal(20, "bits of no CARS: among others", () -> x.evening(127, 0));
        Check.illegal(20, "bits of no CARS: the highest", () -> x.evening(Integer.MIN_VALUE, 0));
        Check.illegal(20, "bits of no CARS: all", () -> x.evening(-1, 0));
        BlockedCars none = new BlockedCars();
        Check.illegal(20, "bits of no CARS: there are none", () -> none.evening(1, 0));
    }

    private static void eveningDigits() {
        evening("of the first told CAR the highest", "lane 1;lane 1;lane 4;car 1 6 0;car 1 5 0;car 1 4 0;car 1 3 0;car 1 2 0;car 1 1 0;", 63, 0,
                ((((0 * 4 + 1) * 4 + 2) * 4 + 2) * 4 + 2) * 4 + 2);
        evening("all in the last LANE", "lane 1;lane 1;lane 4;car 2 2 0;car 2 1 0;", 3, 0, 2 * 4 + 2);
        evening("of those alone that are told", "lane 1;lane 1;lane 4;car 2 2 0;car 1 5 0;car 2 1 0;", 5, 0, 2 * 4 + 2);
        evening("the last CAR alone", "lane 1;lane 4;car 1 1 0;car 1 1 0;car 1 1 0;car 1 1 0;car 1 1 0;car 2 1 0;", 32, 0, 1);
        // 0, 1, 2 of one T, each its own LANE; then 3, 4, 5 which leave ahead of them
        evening("three LANES for three of one T", "lane 2;lane 2;lane 2;car 1 9 0;car 1 9 0;car 1 9 0;car 1 1 0;car 1 1 0;car 1 1 0;", 63, 0,
                ((((0 * 4 + 1) * 4 + 2) * 4 + 0) * 4 + 1) * 4 + 2);
        evening("of alike ways the first", "lane 4;lane 4;lane 4;car 1 9 0;car 1 8 0;car 1 7 0;", 7, 0, 0);
    }

    private static void sure() {
        BlockedCars x = Check.with(SIX, STAND);
        for (int q = 0; q <= 16; q++) {
            for (int ahead = 0; ahead <= 3; ahead++) {
                BigInteger above = BigInteger.valueOf(q).pow(ahead);
                BigInteger below = BigInteger.valueOf(16).pow(ahead);
                BigInteger common = above.gcd(below);
                Check.due(21, "above, in least terms: " + q + ", " + ahead, x.sure(3 - ahead, q, 0), above.divide(common).intValue());
                Check.due(21, "below, in least terms: " + q + ", " + ahead, x.sure(3 - ahead, q, 1), below.divide(common).intValue());
            }
        }
        Check.due(21, "three by 0 are 0 by 1: above", x.sure(0, 0, 0), 0);
        Check.due(21, "three by 0 are 0 by 1: below", x.sure(0, 0, 1), 1);
        Check.due(21, "FRONT, by 0, is sure", x.sure(3, 0, 0), 1);
        Check.due(21, "three by 1", x.sure(0, 1, 1), 4096);
        x.undo();
        for (int q = 0; q <= 16; q++) {
            Check.due(21, "out: 1", x.sure(0, q, 0), 1);
            Check.due(21, "out: by 1", x.sure(0, q, 1), 1);
        }
    }

    private static void leaks(String sentence, BlockedCars x, String spots, int many, int first, int all) {
        Check.spots(x, spots);
        Check.due(22, sentence + ": how many", x.leaks(0), many);
        Check.due(22, sentence + ": the first", x.leaks(1), first);
        Check.due(22, sentence + ": CARS in all of them", x.leaks(2), all);
    }

    private static void leaks() {
        leaks("no CARS", new BlockedCars(), "", 1, 0, 0);
        leaks("no CARS, no oil", Check.with("lane 1;"), "0 0 0;", 1, 0, 0);
        leaks("no CARS, oil", Check.with("lane 1;"), "0 0 1;", 0, -1, 0);
        leaks("no SPOTS: both sets of one", Check.with("lane 1;car 1 1 0;", "park 0 0;"), "", 2, 0, 0);
        leaks("no SPOTS: all sets", Check.with(SIX, STAND), "", 64, 0, 0);
        leaks("all are out", Check.with(SIX), "", 64, 0, 0);
        leaks("all are out, no oil", Check.with(SIX), "0 0 0;2 3 0;", 64, 0, 0);
        leaks("all are out, oil", Check.with(SIX), "0 0 0;2 3 1;", 0, -1, 0);
        leaks("one that is out may leak, too", Check.with("lane 1;car 1 1 0;car 1 1 0;", "park 1 0;"), "0 0 1;", 2, 2, 2);
        leaks("all leak", Check.with(SIX, STAND), "0 0 1;0 1 1;0 2 1;0 3 1;1 0 1;1 1 1;", 1, 63, 63);
        leaks("none leaks", Check.with(SIX, STAND), "0 0 0;0 1 0;0 2 0;0 3 0;1 0 0;1 1 0;", 1, 0, 0);
        leaks("the last one leaks", Check.with(SIX, STAND), "1 1 1;", 32, 32, 32);
        leaks("two places of one: both", Check.with("lane 2;car 2 1 0;", "park 0 0;"), "0 0 1;0 1 1;", 1, 1, 1);
        leaks("two places of one: neither", Check.with("lane 2;car 2 1 0;", "park 0 0;"), "0 0 0;0 1 0;", 1, 0, 0);
        leaks("two places of one: one alone can't be", Check.with("lane 2;car 2 1 0;", "park 0 0;"), "0 0 1;0 1 0;", 0, -1, 0);
        leaks("two places of one: the other alone can't be", Check.with("lane 2;car 2 1 0;", "park 0 0;"), "0 0 0;0 1 1;", 0, -1, 0);
        leaks("two places of one: the second tells it", Check.with("lane 2;car 2 1 0;", "park 0 0;"), "0 1 1;", 1, 1, 1);
        BlockedCars often = Check.with("lane 1;car 1 1 0;", "park 0 0;");
        for (int i = 0; i < 3; i++) {
            leaks("oil, once more", often, "0 0 1;", 1, 1, 1);
        }
        for (int i = 0; i < 3; i++) {
            leaks("none, once more: the lines ahead are gone", often, "0 0 0;", 1, 0, 0);
        }
        BlockedCars x = Check.with("lane 1;lane 1;car 1 1 0;", "park 0 0;");
        leaks("by where they stand now: ahead", x, "0 0 1;", 1, 1, 1);
        Check.work(x, "move 0 0 1;");
        Check.due(22, "by where they stand now: behind", x.leaks(0), 0);
    }

    private static void look(String sentence, BlockedCars x, String spots, int place, int left) {
        Check.spots(x, spots);
        Check.due(23, sentence + ": the place", x.look(0), place);
        Check.due(23, sentence + ": how many sets are left at the worst", x.look(1), left);
    }

    private static void look() {
        look("NONE: no LANES", new BlockedCars(), "", -1, -1);
        look("NONE: no LANES, but CARS", Check.with("car 1 1 0;"), "", -1, -1);
        look("NONE: all places are in lines", Check.with("lane 1;lane 1;car 1 1 0;", "park 0 1;"), "1 0 1;0 0 0;", -1, -1);
        BlockedCars narrower = Check.with(SIX, STAND);
        look("a wide yard", narrower, "0 0 1;", 1, 16);
        Check.yard(narrower, "lane 2;");
        look("a narrower one: its own places", narrower, "0 0 0;", 1, 1);
        look("a narrower one: no other place", narrower, "0 0 0;0 1 0;", -1, -1);
        Check.yard(narrower, "");
        look("no yard", narrower, "", -1, -1);
        look("all places but the last", Check.with("lane 4;lane 3;lane 4;car 1 1 0;", "park 0 0;"),
                "0 0 1;0 1 0;0 2 0;0 3 0;1 0 0;1 1 0;1 2 0;2 0 0;2 1 0;2 2 0;", 23, 1);
        look("all places but one in the midst", Check.with("lane 4;lane 3;lane 4;car 1 1 0;", "park 0 0;"),
                "0 0 1;0 1 0;0 2 0;0 3 0;1 0 0;1 1 0;2 3 0;2 0 0;2 1 0;2 2 0;", 12, 1);
        look("no set is left: the first place, none at the worst", Check.with("lane 2;car 1 1 0;"), "0 0 1;", 1, 0);
        look("no CARS: one set is left", Check.with("lane 2;"), "", 0, 1);
        look("where none stands nothing is seen", Check.with("lane 2;car 1 1 0;"), "", 0, 2);
        look("of these the first", Check.with(SIX, STAND), "", 0, 32);
        look("the first that halves them", Check.with("lane 1;lane 4;car 1 1 0;", "park 0 1;"), "", 10, 1);
        look("what is told is told: an empty place, another car", Check.with("lane 1;lane 4;car 2 1 0;car 1 2 0;", "park 0 1;park 1 1;"), "1 1 1;", 12, 1);
        look("of the highest LANE and place", Check.with("lane 1;lane 1;lane 4;car 1 1 0;car 1 1 0;car 1 1 0;car 1 1 0;",
                "park 0 2;park 1 2;park 2 2;park 3 2;"), "2 0 1;2 1 1;2 2 0;", 23, 1);
    }

    private static void fronts(int k, int v, int w, int many, int first, int together) {
        BlockedCars x = new BlockedCars();
        String by = "k " + k + ", v " + v + ", w " + w;
        Check.due(24, "how many RESTS by " + by, x.fronts(k, v, w, 0), many);
        Check.due(24, "the first by " + by, x.fronts(k, v, w, 1), first);
        Check.due(24, "what both have by it together by " + by, x.fronts(k, v, w, 2), together);
    }

    private static void fronts() {
        // k 0: both bid 0 and have 0, and there is no other bid
        fronts(0, 0, 0, 1, 0, 0);
        fronts(0, 40, 40, 1, 0, 0);
        // v and w 0: alike ones rest, as who bids more has less than 0; who bids less has 0 as well: 0 and 0, 1 and 1, ..
        fronts(1, 0, 0, 2, 0, 0);
        fronts(9, 0, 0, 10, 0, 0);
        fronts(9, 0, 40, 3, 89, 31);
        // against 0 who bids more has less than 0; against any other bid who bids 0 has 40
        fronts(9, 40, 0, 1, 0, 0);
        fronts(9, 40, 40, 2, 1, 79);
        fronts(1, 0, 1, 4, 0, 0);
        fronts(1, 1, 1, 3, 0, 0);
        fronts(1, 0, 2, 3, 1, 1);
        for (int k = 0; k <= 9; k++) {
            for (int v = 0; v <= 40; v++) {
                BlockedCars x = new BlockedCars();
                PlainModel model = new PlainModel();
                for (int w = 0; w <= 40; w++) {
                    for (int what = 0; what <= 2; what++) {
                        Check.due(24, "fronts(" + k + ", " + v + ", " + w + ", " + what + ")", x.fronts(k, v, w, what), model.fronts(k, v, w, what));
                    }
                }
            }
        }
    }

    private static void pays() {
        // 0 moved once, 1 three times, 2 five times, 3 never
        BlockedCars x = Check.with("lane 1;lane 1;car 1 1 0;car 1 1 0;car 1 1 0;car 1 1 0;",
                "park 0 0;move 0 0 1;leave 1;park 1 0;move 1 0 1;move 1 1 0;move 1 0 1;leave 1;",
                "park 2 0;move 2 0 1;move 2 1 0;move 2 0 1;move 2 1 0;move 2 0 1;");
        int[] moved = {1, 3, 5, 0};
        int[][] due = {{0, 0, 0}, {0, 0, 0}, {0, 0, 0}, {1, 1, 1}, {1, 1, 1}, {1, 2, 2}, {1, 2, 2}, {1, 3, 3}, {1, 3, 4}, {1, 3, 5}, {1, 3, 5}};
        for (int n = 0; n < due.length; n++) {
            for (int car = 0; car < 3; car++) {
                Check.due(25, "levelled: " + car + " of " + n, x.pays(car, 7, n), due[n][car]);
            }
        }
        for (int car = 0; car < 4; car++) {
            Check.due(25, "all, if they are no more", x.pays(car, 15, 999), moved[car]);
            Check.due(25, "of 0 none", x.pays(car, 15, 0), 0);
            Check.due(25, "no more than that each, alone", x.pays(car, 1 << car, 6), moved[car]);
            Check.due(25, "0, if it is none of them", x.pays(car, 15 - (1 << car), 999), 0);
            Check.due(25, "0, if none is told", x.pays(car, 0, 999), 0);
        }
        Check.due(25, "alone, no more than n", x.pays(2, 4, 4), 4);
        Check.due(25, "alone, no more than n", x.pays(2, 4, 1), 1);
        Check.due(25, "those that were never moved don't count", x.pays(2, 12, 3), 3);
        Check.due(25, "out or in", x.pays(0, 1, 1), 1);
        Check.noSuch(25, "no such CAR, ahead of bits of no CARS", () -> x.pays(4, 16, 1));
        Check.noSuch(25, "no such CAR, ahead of n", () -> x.pays(-1, 1, 1000));
    }

    private static void spare(String sentence, BlockedCars x, int m, int more) {
        Check.due(26, sentence + ", m " + m, x.spare(m), more);
    }

    private static void spare() {
        for (int m : new int[] {0, 20}) {
            spare("none is in", new BlockedCars(), m, 0);
            spare("none is in, of six", Check.with(SIX), m, 0);
        }
        BlockedCars four = Check.with(SIX, STAND);
        spare("four moves: just m", four, 4, 0);
        spare("four moves: one too many, whatever places there are", four, 3, -1);
        spare("four moves, the greatest m", four, 20, 0);
        BlockedCars one = Check.with("lane 2;lane 4;lane 4;car 2 7 0;car 2 4 0;car 1 3 0;car 1 1 0;car 1 6 0;car 2 4 0;",
                "park 1 0;park 2 1;park 0 1;park 3 1;park 5 2;park 4 2;");
        spare("by one place more four moves", one, 20, 1);
        spare("by one place more four moves", one, 4, 1);
        spare("by two places more three moves", one, 3, 2);
        spare("NONE: two moves can't be", one, 2, -1);
        spare("NONE: no moves can't be", one, 0, -1);
        BlockedCars three = Check.with("lane 1;lane 4;car 1 5 0;car 1 0 0;car 1 0 0;car 1 8 0;car 1 4 0;",
                "park 1 1;park 4 0;park 0 1;park 2 1;park 3 1;");
        spare("by three places more six moves", three, 6, 3);
        spare("NONE: five can't be", three, 5, -1);
        BlockedCars most = Check.with("lane 2;lane 4;lane 4;car 2 6 0;car 1 7 0;car 2 8 0;car 2 8 0;car 2 9 0;car 1 2 0;",
                "park 1 1;park 4 0;park 5 1;park 3 1;park 0 2;park 2 2;");
        spare("by two places more three moves", most, 3, 2);
        spare("by four places more two moves", most, 2, 4);
        spare("NONE: one can't be", most, 1, -1);
        Check.due(26, "nothing stays changed", most.lane(0, 0), 2);
        Check.due(26, "more in LANE 0 alone", Check.with("lane 1;lane 1;lane 2;car 1 1 0;car 1 2 0;car 1 3 0;car 1 4 0;",
                "park 2 0;park 3 1;park 0 2;park 1 2;").spare(1), 1);
        Check.due(26, "a single LANE: no places help", Check.with("lane 2;car 1 1 0;car 1 2 0;", "park 0 0;park 1 0;").spare(20), -1);
    }

    private static void next() {
        BlockedCars x = Check.with(SIX, STAND);
        Check.due(27, "by T", x.next(0), 0);
        Check.due(27, "how many are AHEAD of it: 3 at most", x.next(1), 3);
        Check.work(x, "leave 1;leave 0;leave 0;leave 0;leave 0;");
        Check.due(27, "the last one", x.next(0), 4);
        Check.due(27, "none is AHEAD of it", x.next(1), 0);
        Check.work(x, "leave 1;");
        Check.due(27, "NONE: none is in", x.next(0), -1);
        Check.due(27, "NONE both", x.next(1), -1);
        BlockedCars y = Check.with("lane 3;car 1 99 0;car 1 0 0;car 1 0 0;", "park 1 0;park 0 0;");
        Check.due(27, "by T ahead of numbers", y.next(0), 1);
        Check.due(27, "then numbers", Check.with("lane 3;car 1 9 0;car 1 0 0;car 1 0 0;", "park 2 0;park 1 0;").next(0), 1);
        Check.due(27, "of those that are in", Check.with("lane 3;car 1 9 0;car 1 0 0;car 1 5 0;", "park 0 0;park 2 0;").next(0), 2);
        Check.due(27, "NONE without CARS", new BlockedCars().next(1), -1);
    }

    private static void most() {
        BlockedCars x = Check.with("lane 1;lane 1;car 1 1 0;car 1 1 0;car 1 1 0;", "park 2 0;");
        Check.due(28, "NONE: none was", x.most(0), -1);
        Check.due(28, "NONE both", x.most(1), -1);
        Check.work(x, "move 2 0 1;");
        Check.due(28, "the only one", x.most(0), 2);
        Check.due(28, "once", x.most(1), 1);
        Check.work(x, "park 1 0;leave 1;move 1 0 1;");
        Check.due(28, "of alike ones the first", x.most(0), 1);
        Check.work(x, "leave 1;park 2 0;move 2 0 1;");
        Check.due(28, "moved most", x.most(0), 2);
        Check.due(28, "twice", x.most(1), 2);
        Check.work(x, "leave 1;");
        Check.due(28, "out, too", x.most(0), 2);
        x.undo();
        x.undo();
        x.undo();
        Check.due(28, "undone", x.most(0), 2);
        x.undo();
        Check.due(28, "NONE: all is undone", x.most(1), -1);
        Check.due(28, "NONE without CARS", new BlockedCars().most(0), -1);
    }

    private static void days() {
        for (int what = 0; what <= 3; what++) {
            Check.due(29, "without CARS none, what " + what, Check.with("lane 4;").days(7, 60, 16, what), 0);
            Check.due(29, "without LANES none, what " + what, Check.with("car 1 1 0;").days(7, 60, 16, what), 0);
        }
        BlockedCars in = Check.with("lane 1;car 1 1 0;", "park 0 0;");
        BlockedCars out = Check.with("lane 1;car 1 1 0;");
        for (int many : new int[] {1, 2, 59, 60}) {
            Check.due(29, "Q 0: it leaves each day, " + many, in.days(3, many, 0, 2), many);
            Check.due(29, "Q 0: none is ill, " + many, in.days(3, many, 0, 3), 0);
            Check.due(29, "Q 0: it came home, " + many, in.days(3, many, 0, 0), 1);
            Check.due(29, "Q 0: out at first, it leaves one day less, " + many, out.days(3, many, 0, 2), many - 1);
            Check.due(29, "Q 16: it is ill each day, " + many, in.days(3, many, 16, 3), many);
            Check.due(29, "Q 16: it never leaves, " + many, in.days(3, many, 16, 2), 0);
            Check.due(29, "Q 16: ill, but out on the first day, " + many, out.days(3, many, 16, 3), many - 1);
            Check.due(29, "Q 16: it came home nevertheless, " + many, out.days(3, many, 16, 0), 1);
        }
        Check.due(29, "nothing stays changed", in.told(2) * 2 + out.told(2), 2);
        // all leave; home come 1 (9), 2 (8) and 0 (7), so none stands in the way of one who leaves sooner
        BlockedCars x = Check.with("lane 3;car 1 7 0;car 1 9 0;car 1 8 0;", "park 0 0;park 1 0;park 2 0;");
        Check.due(29, "PAIRS then: none", x.days(1, 1, 0, 1), 0);
        Check.due(29, "PAIRS now", x.told(5), 2);
        BlockedCars narrow = Check.with("lane 1;car 2 1 0;");
        Check.due(29, "swap, if it can be done", narrow.days(1, 60, 8, 0), 0);
    }

    /** As the document says it, with numbers of any length. */
    private static int[] daysOfOne(int seed, int many, int q, int cars) {
        BigInteger s = BigInteger.valueOf(seed);
        int ill = 0;
        int drawn = 0;
        for (int day = 0; day < many; day++) {
            s = s.multiply(BigInteger.valueOf(1103515245)).add(BigInteger.valueOf(12345));
            if (bits(s) % 16 < q) {
                s = s.multiply(BigInteger.valueOf(1103515245)).add(BigInteger.valueOf(12345));
                ill += bits(s) % cars == 0 ? 1 : 0;
                drawn++;
            }
        }
        return new int[] {ill, drawn};
    }

    private static int bits(BigInteger s) {
        return s.mod(BigInteger.ONE.shiftLeft(32)).shiftRight(16).intValue() & 0x7FFF;
    }

    private static void draws() {
        int[] seeds = {0, 1, -1, 12345, 65535, 65536, Integer.MAX_VALUE, Integer.MIN_VALUE, Integer.MAX_VALUE - 1, Integer.MIN_VALUE + 1};
        for (int seed : seeds) {
            for (int q : new int[] {0, 1, 8, 15, 16}) {
                for (int cars : new int[] {1, 2, 5, 6}) {
                    // only CAR 0 finds a place: it is in each morning, and stays if it is ill
                    BlockedCars x = Check.with("lane 2;car 2 9 0;" + "car 2 1 0;".repeat(cars - 1), "park 0 0;");
                    int[] due = daysOfOne(seed, 60, q, cars);
                    String by = "DRAW, it wraps: seed " + seed + ", Q " + q + ", CARS " + cars;
                    Check.due(29, by + ": ill", x.days(seed, 60, q, 3), due[0]);
                    Check.due(29, by + ": left", x.days(seed, 60, q, 2), 60 - due[0]);
                    Check.due(29, by + ": in", x.days(seed, 60, q, 0), 1);
                }
            }
        }
        // LANE 0 from the wall: 0, 1; if 1 is ill, neither leaves; if 0 is, 1 alone does
        for (int seed : seeds) {
            BlockedCars x = Check.with("lane 2;car 1 1 0;car 1 2 0;", "park 0 0;park 1 0;");
            int zero = daysOfOne(seed, 1, 16, 2)[0];
            Check.due(29, "as long as there is a FRONT that is not ill: seed " + seed, x.days(seed, 1, 16, 2), zero);
            Check.due(29, "one of two is ill: seed " + seed, x.days(seed, 1, 16, 3), 1);
            Check.due(29, "PAIRS: they stand as before: seed " + seed, x.days(seed, 1, 16, 1), 1);
        }
    }

    private static void span() {
        String yard = "lane 4;lane 2;car 1 1 0;car 1 2 0;car 1 3 0;car 1 4 0;car 2 5 0;car 1 6 0;";
        String work = "park 0 0;park 1 0;park 2 0;park 3 0;park 5 1;";
        int[] seeds = {0, -1, -20, -19, Integer.MAX_VALUE, Integer.MAX_VALUE - 19, Integer.MAX_VALUE - 18, Integer.MIN_VALUE};
        for (int seed : seeds) {
            BlockedCars x = Check.with(yard, work);
            BlockedCars y = Check.with(yard, work);
            int fewest = Integer.MAX_VALUE;
            int most = 0;
            int in = 0;
            for (int many = 1; many <= 20; many++) {
                int pairs = y.days(seed + many - 1, 1, 16, 1);
                fewest = Math.min(fewest, pairs);
                most = Math.max(most, pairs);
                in += y.days(seed + many - 1, 1, 16, 0) >> 4 & 1;
                String by = many + " SEEDS: seed, seed and 1, ..: " + seed;
                Check.due(30, by + ": the fewest PAIRS", x.span(seed, many, 1, 16, 0, 0), fewest);
                Check.due(30, by + ": the most", x.span(seed, many, 1, 16, 1, 5), most);
                Check.due(30, by + ": by how many a CAR is in", x.span(seed, many, 1, 16, 2, 4), in);
            }
        }
        // by -20, -19, .. there are 6, 6, 5, 5, 2 PAIRS
        BlockedCars few = Check.with(yard, work);
        int[] fewest = {6, 6, 5, 5, 2, 2};
        for (int many = 1; many <= 6; many++) {
            Check.due(30, "the fewest PAIRS by " + many + " SEEDS", few.span(-20, many, 1, 16, 0, 0), fewest[many - 1]);
            Check.due(30, "the most PAIRS by " + many + " SEEDS", few.span(-20, many, 1, 16, 1, 0), 6);
        }
        Check.due(30, "the SEED wraps: 0 PAIRS, and 2 by the next one", few.span(Integer.MAX_VALUE, 2, 1, 16, 1, 0), 2);
        BlockedCars one = Check.with("lane 1;car 1 1 0;car 2 1 0;");
        Check.due(30, "by all SEEDS it is in", one.span(5, 20, 60, 16, 2, 0), 20);
        Check.due(30, "by no SEED it is in", one.span(5, 20, 60, 16, 2, 1), 0);
        Check.due(30, "one SEED, one day", one.span(5, 1, 1, 0, 2, 0), 1);
        Check.due(30, "nothing stays changed", one.told(2), 0);
        for (int what = 0; what <= 2; what++) {
            int w = what;
            Check.illegal(30, "no such CAR, also for 0, 1: what " + what, () -> one.span(5, 1, 1, 0, w, 2));
            Check.illegal(30, "no such CAR, also for 0, 1: below, what " + what, () -> one.span(5, 1, 1, 0, w, -1));
            Check.illegal(30, "no such CAR, also for 0, 1: without CARS, what " + what, () -> new BlockedCars().span(5, 1, 1, 0, w, 0));
        }
        Check.due(33, "these are IllegalArgumentExceptions", one.status(1) * 10 + one.status(0), 60);
    }
}
