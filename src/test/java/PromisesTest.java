/** For each promise what it says, the edges it names and wrong inputs, with answers reckoned by hand. */
public final class PromisesTest {
    private static final String YARD = "lane 3;lane 2;car 1 8 2;car 1 7 0;car 1 9 5;car 2 6 1;key 0 1;key 1 2;cost 4;";
    /** LANE 0 from the wall: 0, 1, 2; LANE 1: 3. */
    private static final String PARKED = "park 0 0;park 1 0;park 2 0;park 3 1;";
    private static final String WIDE = "lane 4;lane 4;lane 4;car 1 5 0;car 1 5 0;car 1 5 0;car 1 5 0;";
    /** LANE 0 from the wall: 0, 1, 2, 3. */
    private static final String ROW = "park 0 0;park 1 0;park 2 0;park 3 0;";

    public static void main(String[] args) {
        newObject();
        feed();
        yard();
        yardFaults();
        law();
        lawFaults();
        work();
        workFaults();
        spots();
        fault();
        undo();
        told();
        lane();
        car();
        on();
        seconds();
        would();
        ahead();
        frees();
        morning();
        corner();
        goes();
        evening();
        sure();
        leaks();
        look();
        fronts();
        pays();
        spare();
        next();
        most();
        days();
        span();
        image();
        restore();
        status();
        count();
        Check.end("PromisesTest");
    }

    private static void due(String what, long got, long want) {
        Check.due(what, got, want);
    }

    private static BlockedCars parked() {
        return Check.with(YARD, PARKED);
    }

    private static void newObject() {
        BlockedCars x = new BlockedCars();
        due("NONE", BlockedCars.NONE, -1);
        for (int what = 0; what <= 9; what++) {
            due("new: told " + what, x.told(what), 0);
        }
        due("new: fault", x.fault(), -1);
        for (int what = 0; what <= 2; what++) {
            due("new: count " + what, x.count(what), 0);
        }
        due("new: would without a law", x.would(2, 3, 0, 0, 0, 0, 0, 0), 35);
    }

    private static void feed() {
        BlockedCars x = new BlockedCars();
        for (int i = 1; i <= 30; i++) {
            due("feed " + i, x.feed(0x6c616e65, 0x20333b20, 0x20202020, 0x20202020, 0x20202020), 20 * i);
        }
        due("feed beyond 600", x.feed(0, 0, 0, 0, 0), -1);
        due("feed beyond 600 does nothing", x.count(1), 600);
        due("the highest byte comes first", x.yard(8), 0);
        due("lane 3", x.lane(0, 0), 3);
        due("the tape is empty", x.count(1), 0);
        due("a byte above 127", x.feed(0x20FF2020, 0, 0, 0, 0), 20);
        due("cannot stand there", x.yard(4), -9);
        due("at its place", x.fault(), 1);
    }

    private static void yard() {
        BlockedCars x = new BlockedCars();
        due("yard", Check.yard(x, YARD), 4);
        due("lanes", x.told(0), 2);
        due("cost: the last counts", Check.yard(x, "lane 1;lane 1;car 1 0 0;cost 9;cost 0;"), 1);
        due("all out", x.told(2), 0);
        Check.work(x, "park 0 0;move 0 0 1;");
        due("cost 0", x.told(9), 0);
        due("moved once", x.told(4), 1);
        Check.law(x, "77");
        Check.spots(x, "0 0 1;");
        x.image();
        Check.work(x, "leave 0;");
        due("refused", x.told(7), 1);
        Check.yard(x, "lane 9;");
        due("a fault: moves stay", x.told(4), 1);
        due("a fault: refused stays", x.told(7), 1);
        due("a fault: images stay", x.count(0), 1);
        due("a fault: works stay", x.count(2), 2);
        due("a fault: the tape is empty", x.count(1), 0);
        Check.put(x, "lane 2 ; lane 1;car 2 99 9; ");
        Check.illegal("yard(-1)", () -> x.yard(-1));
        Check.illegal("yard beyond the tape", () -> x.yard(41));
        due("the tape stays", x.count(1), 40);
        due("yard reads the first bytes", x.yard(16), 0);
        due("new yard: lanes", x.told(0), 2);
        due("new yard: no law", x.would(1, 0, 0, 0, 0, 0, 0, 0), 10);
        due("new yard: no spots", x.told(6), 0);
        due("new yard: no images", x.count(0), 0);
        due("new yard: nothing to undo", x.undo(), -1);
        due("new yard: no moves", x.told(4), 0);
        due("new yard: refused", x.told(7), 0);
        due("cost 5 without", Check.yard(x, "lane1;lane1;car 1 0 0;"), 1);
        Check.work(x, "park 0 0;move 0 0 1;");
        due("5 pence", x.told(9), 5);
        due("an empty yard", x.yard(0), 0);
        due("no lanes", x.told(0), 0);
        due("leading zeros", Check.yard(x, "lane 000000000000000000002;car 01 0099 0009;"), 1);
        due("are 2", x.lane(0, 0), 2);
        due("are 99", x.car(0, 1), 99);
    }

    private static void yardFault(String text, int answer, int place) {
        BlockedCars x = new BlockedCars();
        due("yard '" + text + "'", Check.yard(x, text), answer);
        due("fault of yard '" + text + "'", x.fault(), place);
    }

    private static void yardFaults() {
        yardFault("lane", -9, 4);
        yardFault("lane 3", -9, 6);
        yardFault("lane 3  ", -9, 8);
        yardFault("lane;", -9, 4);
        yardFault("  lan 3;", -9, 2);
        yardFault("Lane 3;", -9, 0);
        yardFault("lane 3,", -9, 6);
        yardFault("lane 3;;", -9, 7);
        yardFault("lane 3; 7", -9, 8);
        yardFault("lane -1;", -9, 5);
        yardFault("lane 3 3;", -9, 7);
        yardFault("lane 99999999999999999999;", -8, 5);
        yardFault("lane 4294967297;", -8, 5);
        yardFault("car 1 2 3;car 1 100 10;", -8, 16);
        yardFault("car 1 2;", -9, 7);
        yardFault("car 1 2 10;", -8, 8);
        yardFault("car 0 2 1;", -8, 4);
        yardFault("car 1 1 1;".repeat(6) + "car 3 1 1;", -7, 60);
        yardFault("car 1 2 3;key 0 1;", -8, 16);
        yardFault("car 1 2 3;key 0", -9, 15);
        yardFault("car 1 2 3;key 0 0;key 1 0;", -8, 22);
        yardFault("cost 40;cost 41;", -8, 13);
        yardFault("lane 1;lane 1;lane 1; lane 9;", -7, 22);
        yardFault("lane 1;lane 1;lane 1; lanes 9;", -9, 22);
        yardFault("cost 1;".repeat(60), 0, -1);
        yardFault("cost 1;".repeat(60) + "  ", 0, -1);
        yardFault("cost 1;".repeat(61), -7, 420);
        yardFault("cost 1;".repeat(60) + " cost 99;", -7, 421);
        yardFault("cost 1;".repeat(60) + "costs", -9, 420);
        yardFault("cost 1;".repeat(60) + "7", -9, 420);
    }

    private static int by(String law, int... facts) {
        BlockedCars x = new BlockedCars();
        due("law '" + law + "'", Check.law(x, law), 1);
        due("no fault", x.fault(), -1);
        return x.would(facts[0], facts[1], facts[2], facts[3], facts[4], facts[5], facts[6], facts[7]);
    }

    private static void law() {
        int[] f = {2, 3, 50, 4, 1, 3, 20, 1};
        due("length", by("length", f), 2);
        due("tries", by("tries", f), 3);
        due("hour", by("hour", f), 50);
        due("car", by("car", f), 4);
        due("lane", by("lane", f), 1);
        due("cars", by("cars", f), 3);
        due("moved", by("moved", f), 20);
        due("own", by("own", f), 1);
        due("a number", by("98", f), 98);
        due("99 at most", by("999", f), 99);
        due("1 at least", by("0 - 5", f), 1);
        due("from left to right", by("20 - 5 - 3", f), 12);
        due("products first", by("2 + 3 * 4", f), 14);
        due("by cuts", by("29 / 10 * 10", f), 20);
        due("rest", by("29 % 10", f), 9);
        due("rest has the sign of what is divided", by("10 + (0 - 7) % 4", f), 7);
        due("cuts toward 0", by("10 + (0 - 7) / 2", f), 7);
        due("by 0", by("7 + 5 / 0 + 5 % 0", f), 7);
        due("least", by("least[hour,moved]", f), 20);
        due("most", by(" most [ hour , moved ] ", f), 50);
        due("brackets", by("(2+3)*4", f), 20);
        due("it wraps", by("999*999*999*999*0+1+999*999*999*999/999/999/999/999+5", f), 6);
        due("the least by -1 wraps", by("(0-1)*512*512*512*16/(0-1)%999+300", f), 19);
        due("as long as can be", by("1+".repeat(74) + "1", f), 75);
        due("as deep as can be", by("1+2*(1+2*(1+2*(1+2*(1+2*(1+2*(1))))))-30", f), 97);
        due("six open", by("((((least[most[7,1],8]))))", f), 7);
        due("one behind the other are not open at one time", by("((((((1))))))+((((((2))))))", f), 3);
        BlockedCars x = new BlockedCars();
        Check.put(x, "1" + " ".repeat(159));
        Check.illegal("law(151)", () -> x.law(151));
        Check.illegal("law(-1)", () -> x.law(-1));
        due("the tape stays", x.count(1), 160);
        due("law(150)", x.law(150), 1);
        Check.illegal("law beyond the tape", () -> x.law(1));
    }

    private static void lawFault(String text, int answer, int place) {
        BlockedCars x = new BlockedCars();
        Check.law(x, "42");
        due("law '" + text + "'", Check.law(x, text), answer);
        due("fault of law '" + text + "'", x.fault(), place);
        due("the law stays", x.would(1, 0, 0, 0, 0, 0, 0, 0), 42);
        due("the tape is empty", x.count(1), 0);
    }

    private static void lawFaults() {
        lawFault("", -9, 0);
        lawFault("   ", -9, 3);
        lawFault("1 1", -9, 2);
        lawFault("1 +", -9, 3);
        lawFault("+ 1", -9, 0);
        lawFault("(1", -9, 2);
        lawFault("(1]", -9, 2);
        lawFault("1)", -9, 1);
        lawFault("least(1,2)", -9, 5);
        lawFault("most[1,2,3]", -9, 8);
        lawFault("most[1,2", -9, 8);
        lawFault("wide", -9, 0);
        lawFault("2 * 1000", -8, 4);
        lawFault("hour2", -9, 4);
        lawFault("least[((((((1))))))", -7, 11);
        lawFault("((((((least[1,2]", -7, 6);
        lawFault("(((((( most", -7, 7);
        lawFault("((((((mos", -9, 6);
        lawFault("1;", -9, 1);
    }

    private static void work() {
        BlockedCars x = Check.with(YARD);
        due("park", Check.work(x, "park 0 0;park 0 1;park 3 0;park 1 0;"), 2);
        due("refused: is in, and no room", x.told(7), 2);
        due("in", x.told(2), 9);
        due("LANE 0 is full by a CAR of 2", x.lane(0, 1), 0);
        due("leave", Check.work(x, "leave 0;leave 0;leave 0;leave 1;"), 2);
        due("refused: is empty", x.told(7), 2);
        x = parked();
        due("move: no key, no room, its own, is empty, is the same", Check.work(x,
                "move 0 0 1;move 2 0 1;leave 1;move 0 0 1;move 2 0 1;move 3 0 1;move 2 1 1;"), 2);
        due("refused", x.told(7), 5);
        due("seconds of car 2", x.told(3), 35);
        due("a key of another", Check.work(x, "move 1 1 0;move 1 0 1;"), 2);
        due("moves", x.told(4), 3);
        due("again", Check.work(x, "again 3 [move 2 1 0;move 2 0 1;];again 0 [leave 0;];again 2[];"), 6);
        due("none was refused", x.told(7), 0);
        due("moves then", x.told(4), 9);
        due("the law's lane, cars, moved, own", Check.law(x, "lane * 40 + cars * 10 + moved * own"), 1);
        int before = x.told(3);
        Check.work(x, "move 2 1 0;");
        due("from LANE 1, alone, moved 9 times, by its owner", x.told(3) - before, 40 + 10 + 9);
        before = x.told(3);
        Check.work(x, "move 1 0 1;");
        due("from LANE 0, one of three, by another", x.told(3) - before, 30);
        swap();
        manySteps();
    }

    private static void swap() {
        BlockedCars x = Check.with("lane 2;lane 3;car 1 5 0;car 2 9 0;car 1 9 0;car 2 4 0;");
        due("swap", Check.work(x, "swap;"), 1);
        // 1 to LANE 1 (room 1 then), 2 to LANE 0 (1), 0 to LANE 0 (0), 3 does not fit
        due("LANE 0", x.lane(0, 3), 5);
        due("its front", x.lane(0, 2), 0);
        due("LANE 1", x.lane(1, 3), 2);
        due("no move", x.told(4), 0);
        due("swap is refused, if none comes in", Check.work(x, "swap;swap;leave 1;swap;"), 2);
        due("twice", x.told(7), 2);
        due("the latest that fits comes home", x.lane(1, 3), 2);
        x = Check.with("car 1 5 0;");
        due("without lanes", Check.work(x, "swap;"), 0);
        due("it is refused", x.told(7), 1);
    }

    private static void manySteps() {
        BlockedCars x = Check.with("lane 1;car 1 1 1;");
        due("200 steps are begun", Check.work(x, "again 30[again 30[park 0 0;leave 0;];];"), 195);
        // the first again, then 3 times 1 and 60, then 1 and 15
        due("none is refused", x.told(7), 0);
        due("the last one parked", x.told(2), 1);
        due("refused ones are begun, too", Check.work(x, "again 30[leave 0;leave 0;leave 0;leave 0;leave 0;leave 0;];"
                + "park 0 0;leave 0;"), 3);
        due("179 refused", x.told(7), 179);
        due("what comes behind is left out", Check.work(x, "again 30[leave 0;leave 0;leave 0;leave 0;leave 0;leave 0;leave 0;];"
                + "park 0 0;"), 0);
        due("199 refused", x.told(7), 199);
        due("agains in agains, empty", Check.work(x, "again 30[again 30[again 30[again 30[];];];];park 0 0;"), 0);
        BlockedCars y = Check.with("lane 1;car 1 1 1;");
        Check.put(y, " ".repeat(160));
        Check.illegal("work(151)", () -> y.work(151));
        Check.illegal("work(-1)", () -> y.work(-1));
        due("the tape stays", y.count(1), 160);
        due("work(150)", y.work(150), 0);
        Check.illegal("work beyond the tape", () -> y.work(1));
        for (int i = 2; i <= 16; i++) {
            due("work " + i, y.work(0), 0);
        }
        due("16 works", y.count(2), 16);
        Check.yard(y, "x");
        due("a fault", y.fault(), 0);
        due("-20 ahead of a fault", Check.work(y, "x"), -20);
        due("there is no fault then", y.fault(), -1);
        due("the tape is empty then", y.count(1), 0);
        Check.illegal("the length is looked at first", () -> y.work(1));
        y.undo();
        due("one was undone", Check.work(y, "park 0 0;"), 1);
    }

    private static void workFault(String text, int answer, int place) {
        BlockedCars x = parked();
        Check.work(x, "park 0 0;");
        due("work '" + text + "'", Check.work(x, text), answer);
        due("fault of work '" + text + "'", x.fault(), place);
        due("none is done", x.told(2), 15);
        due("nor to undo", x.count(2), 2);
        due("refused stays", x.told(7), 1);
    }

    private static void workFaults() {
        workFault("leave 0;park", -9, 12);
        workFault("leave 0;park 4 0;", -8, 13);
        workFault("leave 0;park 0 2;", -8, 15);
        workFault("leave 0;move 0 1 2;", -8, 17);
        workFault("leave 0;move 0 2 1;", -8, 15);
        workFault("leave 0;move 4 1 0;", -8, 13);
        workFault("leave 0;leave 2;", -8, 14);
        workFault("leave 0", -9, 7);
        workFault("leave 0;drive;", -9, 8);
        workFault("leave 0;]", -9, 8);
        workFault("again 2 leave 0;", -9, 8);
        workFault("again [leave 0;];", -9, 6);
        workFault("again 2 [leave 0;]", -9, 18);
        workFault("again 2 [leave 0;", -9, 17);
        workFault("again 2 [leave 0];", -9, 16);
        workFault("again 31 [leave 0;];", -8, 6);
        workFault("again 1[".repeat(6) + " again 99", -7, 49);
        workFault("again 1[".repeat(6) + "agai", -9, 48);
        due("six open", Check.work(parked(), "again 1[".repeat(6) + "leave 0;" + "];".repeat(6)), 1);
        due("a car there is none of", Check.work(new BlockedCars(), "park 0 0;"), -8);
    }

    private static void spotsFault(String text, int answer, int place) {
        BlockedCars x = parked();
        Check.spots(x, "0 0 1;");
        due("spots '" + text + "'", Check.spots(x, text), answer);
        due("fault of spots '" + text + "'", x.fault(), place);
        due("the spots stay", x.told(6), 1);
    }

    private static void spots() {
        BlockedCars x = parked();
        due("spots", Check.spots(x, " 0 0 1 ;1 1 0; "), 2);
        due("lines", x.told(6), 2);
        due("none", x.spots(0), 0);
        due("no lines", x.told(6), 0);
        due("all places", Check.spots(x, "0 0 1;0 1 1;0 2 1;1 0 1;1 1 1;"), 5);
        Check.put(x, " ".repeat(80));
        Check.illegal("spots(61)", () -> x.spots(61));
        Check.illegal("spots(-1)", () -> x.spots(-1));
        due("the tape stays", x.count(1), 80);
        due("spots(60)", x.spots(60), 0);
        Check.illegal("spots beyond the tape", () -> x.spots(1));
        spotsFault("2 0 1;", -8, 0);
        spotsFault("0 3 1;", -8, 2);
        spotsFault("1 2 1;", -8, 2);
        spotsFault("1 1 2;", -8, 4);
        spotsFault("1 1 1;0 0 0; 1  1 7;", -8, 16);
        spotsFault("1 1 1", -9, 5);
        spotsFault("1 1 ;", -9, 4);
        spotsFault("a", -9, 0);
        spotsFault("1 1 1; ;", -9, 7);
        due("no lanes", Check.spots(new BlockedCars(), "0 0 1;"), -8);
    }

    private static void fault() {
        BlockedCars x = new BlockedCars();
        Check.yard(x, "lane 1;x");
        due("the latest text's", x.fault(), 7);
        Check.illegal("a length", () -> x.yard(1));
        due("a refused call reads no text", x.fault(), 7);
        due("asked again", x.fault(), 7);
        Check.law(x, "1");
        due("none", x.fault(), -1);
    }

    private static void undo() {
        BlockedCars x = Check.with(YARD);
        due("none", x.undo(), -1);
        Check.work(x, PARKED);
        Check.work(x, "leave 1;move 2 0 1;leave 1;leave 1;");
        due("moved", x.car(2, 5), 1);
        due("undo", x.undo(), 1);
        due("in", x.told(2), 15);
        due("seconds", x.told(3), 0);
        due("moves", x.car(2, 5), 0);
        due("refused", x.told(7), 0);
        due("where", x.car(2, 3), 0);
        due("undo once more", x.undo(), 0);
        due("all are out", x.told(2), 0);
        due("none is left", x.undo(), -1);
    }

    private static void told() {
        BlockedCars x = parked();
        Check.work(x, "leave 1;move 1 0 1;move 0 0 1;leave 0;leave 0;");
        Check.spots(x, "0 1 0;");
        due("lanes", x.told(0), 2);
        due("cars", x.told(1), 4);
        due("in", x.told(2), 6);
        due("seconds", x.told(3), 35 + 10);
        due("moves", x.told(4), 2);
        due("pairs: 1 (7) is nearer to the gate than 2 (9)", x.told(5), 0);
        due("lines", x.told(6), 1);
        due("refused", x.told(7), 1);
        due("room", x.told(8), 3);
        due("pence", x.told(9), 8);
        due("pairs: 2 ahead of 0 and of 1", parked().told(5), 2);
        due("pairs of one hour go by numbers", Check.with(WIDE, ROW).told(5), 6);
        due("the other way none", Check.with(WIDE, "park 3 0;park 2 0;park 1 0;park 0 0;").told(5), 0);
        Check.illegal("told(-1)", () -> x.told(-1));
        Check.illegal("told(10)", () -> x.told(10));
    }

    private static void lane() {
        BlockedCars x = parked();
        Check.work(x, "leave 0;");
        due("places", x.lane(0, 0), 3);
        due("room", x.lane(0, 1), 1);
        due("front", x.lane(0, 2), 1);
        due("cars", x.lane(0, 3), 3);
        due("at the wall", x.lane(0, 4), 0);
        Check.work(x, "leave 1;");
        due("front of none", x.lane(1, 2), -1);
        due("no cars", x.lane(1, 3), 0);
        due("none at the wall", x.lane(1, 4), -1);
        due("room of all", x.lane(1, 1), 2);
        Check.noSuch("lane(2, 0)", () -> x.lane(2, 0));
        Check.noSuch("lane(-1, 9)", () -> x.lane(-1, 9));
        Check.illegal("lane(0, 5)", () -> x.lane(0, 5));
        Check.illegal("lane(1, -1)", () -> x.lane(1, -1));
    }

    private static void car() {
        BlockedCars x = Check.with("lane 4;lane 1;car 2 3 4;car 1 99 9;car 1 0 0;key 1 0;key 1 2;key 0 0;",
                "park 0 0;park 1 0;move 1 0 1;move 1 1 0;");
        due("length", x.car(0, 0), 2);
        due("hour", x.car(1, 1), 99);
        due("tries", x.car(1, 2), 9);
        due("lane", x.car(1, 3), 0);
        due("behind a car of 2", x.car(1, 4), 2);
        due("at the wall", x.car(0, 4), 0);
        due("moved", x.car(1, 5), 2);
        due("keys", x.car(1, 6), 7);
        due("its own key", x.car(0, 6), 1);
        due("out", x.car(2, 3), -1);
        due("out, nowhere", x.car(2, 4), -1);
        Check.noSuch("car(3, 0)", () -> x.car(3, 0));
        Check.noSuch("car(-1, 7)", () -> x.car(-1, 7));
        Check.illegal("car(0, 7)", () -> x.car(0, 7));
        Check.illegal("car(0, -1)", () -> x.car(0, -1));
    }

    private static void on() {
        BlockedCars x = Check.with("lane 4;lane 1;car 1 3 4;car 2 99 9;", "park 0 0;park 1 0;");
        due("place 0", x.on(0, 0), 0);
        due("place 1", x.on(0, 1), 1);
        due("place 2", x.on(0, 2), 1);
        due("place 3", x.on(0, 3), -1);
        due("no such place", x.on(0, 4), -1);
        due("no such place below", x.on(0, -1), -1);
        due("far below", x.on(0, Integer.MIN_VALUE), -1);
        due("far above", x.on(0, Integer.MAX_VALUE), -1);
        due("an empty lane", x.on(1, 0), -1);
        due("no such place of a short lane", x.on(1, 1), -1);
        Check.noSuch("on(2, 0)", () -> x.on(2, 0));
        Check.noSuch("on(-1, 0)", () -> x.on(-1, 0));
    }

    private static void seconds() {
        BlockedCars x = parked();
        due("without a law", x.seconds(3, 0), 25);
        Check.law(x, "lane * 30 + cars * 10 + own * 5 + moved + 1");
        due("car 3 is alone in LANE 1", x.seconds(3, 1), 30 + 10 + 5 + 1);
        due("car 0 is one of three", x.seconds(0, 0), 31);
        Check.work(x, "leave 1;move 2 0 1;");
        due("moved once", x.seconds(2, 0), 30 + 10 + 1 + 1);
        due("out: lane and cars are 0", x.seconds(3, 1), 6);
        Check.noSuch("seconds(4, 0)", () -> x.seconds(4, 0));
        Check.noSuch("seconds(-1, 9)", () -> x.seconds(-1, 9));
        Check.illegal("seconds(0, 2)", () -> x.seconds(0, 2));
        Check.illegal("seconds(0, -1)", () -> x.seconds(0, -1));
    }

    private static void would() {
        int[] least = {1, 0, 0, 0, 0, 0, 0, 0};
        int[] most = {2, 9, 99, 5, 2, 4, 999, 1};
        BlockedCars x = new BlockedCars();
        due("the least", x.would(1, 0, 0, 0, 0, 0, 0, 0), 10);
        due("the most", x.would(2, 9, 99, 5, 2, 4, 999, 1), 65);
        for (int i = 0; i < 8; i++) {
            int[] below = least.clone();
            below[i]--;
            int[] above = most.clone();
            above[i]++;
            Check.illegal("would below in " + i, () -> would(x, below));
            Check.illegal("would above in " + i, () -> would(x, above));
        }
    }

    private static int would(BlockedCars x, int[] f) {
        return x.would(f[0], f[1], f[2], f[3], f[4], f[5], f[6], f[7]);
    }

    private static void ahead() {
        BlockedCars x = parked();
        due("of the one at the wall", x.ahead(0), 6);
        due("of the next", x.ahead(1), 4);
        due("of the front", x.ahead(2), 0);
        Check.work(x, "leave 1;");
        due("out", x.ahead(3), 0);
        Check.noSuch("ahead(4)", () -> x.ahead(4));
        Check.noSuch("ahead(-1)", () -> x.ahead(-1));
    }

    private static void frees() {
        BlockedCars x = Check.with(WIDE, ROW);
        due("three moves", x.frees(0, 0), 3);
        due("the least first", x.frees(0, 1), 1);
        due("it is front yet", x.frees(3, 0), 0);
        due("no first", x.frees(3, 1), -1);
        due("nothing stays changed", x.told(4), 0);
        Check.work(x, "leave 0;");
        due("out", x.frees(3, 0), -1);
        due("out: no first", x.frees(3, 1), -1);
        due("no room", parked().frees(0, 0), -1);
        // LANE 1 has room for 2 only once 1 has gone on to LANE 2
        BlockedCars y = Check.with("lane 3;lane 2;lane 1;car 1 1 0;car 2 2 0;car 1 3 0;", "park 0 0;park 1 0;park 2 1;");
        due("another one must go first", y.frees(0, 0), 2);
        due("from LANE 1 to LANE 2", y.frees(0, 1), 12);
        Check.noSuch("frees(3, 0)", () -> y.frees(3, 0));
        Check.noSuch("frees(-1, 2)", () -> y.frees(-1, 2));
        Check.illegal("frees(0, 2)", () -> y.frees(0, 2));
        Check.illegal("frees(0, -1)", () -> y.frees(0, -1));
    }

    private static void morning() {
        due("none is in", new BlockedCars().morning(0), 0);
        due("none is needed", new BlockedCars().morning(1), -2);
        BlockedCars x = Check.with(WIDE, ROW);
        due("three, and back none", x.morning(0), 3);
        due("the least first", x.morning(1), 1);
        due("by their order none", Check.with(WIDE, "park 3 0;park 2 0;park 1 0;park 0 0;").morning(0), 0);
        due("2 waits till 3 is out", parked().morning(0), 1);
        due("and goes to LANE 1", parked().morning(1), 1);
        BlockedCars stuck = Check.with("lane 2;car 1 1 0;car 1 2 0;", "park 0 0;park 1 0;");
        due("it can't be", stuck.morning(0), -1);
        due("nor has it a first", stuck.morning(1), -1);
        due("nothing stays changed", stuck.told(2), 3);
        // 0 leaves, then 1 (2 places) must give way to 2: LANE 0 has room by then
        BlockedCars y = Check.with("lane 2;lane 3;car 2 0 0;car 2 9 0;car 1 5 0;", "park 0 0;park 2 1;park 1 1;");
        due("room that is free by then", y.morning(0), 1);
        due("from LANE 1 to LANE 0", y.morning(1), 10);
        Check.illegal("morning(2)", () -> y.morning(2));
        Check.illegal("morning(-1)", () -> y.morning(-1));
    }

    private static void corner() {
        BlockedCars x = Check.with(WIDE, ROW);
        for (int car = 0; car < 4; car++) {
            due("each is one less: " + car, x.corner(car), 1);
        }
        due("2 is in the way", parked().corner(2), 1);
        due("3 is not", parked().corner(3), 0);
        BlockedCars stuck = Check.with("lane 2;car 1 1 0;car 1 2 0;car 1 3 0;", "park 0 0;park 1 0;");
        due("it can't be with it", stuck.corner(0), -1);
        due("out", stuck.corner(2), -2);
        BlockedCars y = Check.with("lane 3;lane 1;lane 1;car 1 1 0;car 1 2 0;car 1 3 0;", "park 0 0;park 1 0;park 2 0;");
        due("two moves", y.morning(0), 2);
        due("1 and 2 stand nearer to the wall then", y.corner(0), 1);
        Check.noSuch("corner(3)", () -> y.corner(3));
        Check.noSuch("corner(-1)", () -> y.corner(-1));
    }

    private static void goes() {
        BlockedCars x = Check.with("lane 3;lane 1;lane 2;car 1 1 0;car 1 1 0;car 1 1 0;car 2 1 0;key 0 1;key 0 2;key 1 2;",
                "park 0 0;park 1 0;park 2 0;");
        due("by both keys", x.goes(0) ? 1 : 0, 1);
        due("by one key", x.goes(1) ? 1 : 0, 1);
        due("front", x.goes(2) ? 1 : 0, 1);
        due("out", x.goes(3) ? 1 : 0, 1);
        Check.work(x, "park 3 2;");
        due("no room for the second", x.goes(0) ? 1 : 0, 0);
        due("room for one", x.goes(1) ? 1 : 0, 1);
        due("no key", parked().goes(0) ? 1 : 0, 0);
        // FRONT 2 takes LANE 1, the first with room, though 1 (2 places) would fit nowhere else
        BlockedCars y = Check.with("lane 4;lane 2;lane 1;car 1 1 0;car 2 1 0;car 1 1 0;key 0 1;key 0 2;",
                "park 0 0;park 1 0;park 2 0;");
        due("to the first other lane", y.goes(0) ? 1 : 0, 0);
        due("all have all keys but here", y.frees(0, 0), 2);
        Check.noSuch("goes(3)", () -> y.goes(3) ? 1 : 0);
        Check.noSuch("goes(-1)", () -> y.goes(-1) ? 1 : 0);
    }

    private static void evening() {
        BlockedCars x = Check.with(YARD);
        due("pairs", x.evening(15, 0), 0);
        due("0 and 1 to LANE 1, 2 and 3 to LANE 0", x.evening(15, 1), 4 * 4 * 4 + 4 * 4);
        due("one", x.evening(8, 1), 0);
        due("0 (8) to LANE 0, 2 (9) to LANE 1", x.evening(5, 1), 1);
        due("none", x.evening(0, 0), 0);
        due("no lanes for none", x.evening(0, 1), 0);
        Check.work(x, PARKED);
        due("the yard is taken as empty", x.evening(15, 1), 80);
        BlockedCars wide = Check.with("lane 2;lane 2;car 1 1 0;car 1 1 0;car 1 1 0;car 1 1 0;car 1 1 0;");
        due("pairs that can't be helped", wide.evening(15, 0), 2);
        due("the first of alike ways: 0, 0, 1, 1", wide.evening(15, 1), 5);
        due("not the room", wide.evening(31, 0), -1);
        due("not the room: no lanes", wide.evening(31, 1), -1);
        due("cars without lanes", Check.with("car 1 1 0;").evening(1, 0), -1);
        Check.illegal("a bit of no car", () -> wide.evening(32, 0));
        Check.illegal("all bits", () -> wide.evening(-1, 0));
        Check.illegal("evening(1, 2)", () -> wide.evening(1, 2));
        Check.illegal("evening(1, -1)", () -> wide.evening(1, -1));
    }

    private static void sure() {
        BlockedCars x = Check.with(WIDE, ROW);
        due("three by 8 of 16", x.sure(0, 8, 0), 1);
        due("are 1 by 8", x.sure(0, 8, 1), 8);
        due("two by 6 of 16", x.sure(1, 6, 0), 9);
        due("are 9 by 64", x.sure(1, 6, 1), 64);
        due("three by 15 of 16", x.sure(0, 15, 0), 3375);
        due("below 4096", x.sure(0, 15, 1), 4096);
        due("by 16", x.sure(0, 16, 0), 1);
        due("for sure", x.sure(0, 16, 1), 1);
        due("by 0", x.sure(0, 0, 0), 0);
        due("never", x.sure(0, 0, 1), 1);
        due("front by 0", x.sure(3, 0, 0), 1);
        due("front by 1", x.sure(3, 0, 1), 1);
        x.undo();
        due("out", x.sure(0, 3, 0), 1);
        due("out: by 1", x.sure(0, 3, 1), 1);
        Check.noSuch("sure(4, ..)", () -> x.sure(4, 99, 9));
        Check.illegal("q 17", () -> x.sure(0, 17, 0));
        Check.illegal("q -1", () -> x.sure(0, -1, 0));
        Check.illegal("part 2", () -> x.sure(0, 1, 2));
        Check.illegal("part -1", () -> x.sure(0, 1, -1));
    }

    private static void leaks() {
        BlockedCars x = parked();
        due("without spots all sets", x.leaks(0), 16);
        due("the first is empty", x.leaks(1), 0);
        due("none is in all", x.leaks(2), 0);
        Check.spots(x, "0 1 1;1 0 1;0 2 0;");
        due("1 and 3 do, 2 does not", x.leaks(0), 2);
        due("the first", x.leaks(1), 10);
        due("in all", x.leaks(2), 10);
        Check.work(x, "leave 1;");
        due("oil where none stands", x.leaks(0), 0);
        due("no first", x.leaks(1), -1);
        due("nor one in all", x.leaks(2), 0);
        due("a new object", new BlockedCars().leaks(0), 1);
        Check.spots(x, "1 0 0;1 1 0;");
        due("no oil where none stands", x.leaks(0), 16);
        Check.illegal("leaks(3)", () -> x.leaks(3));
        Check.illegal("leaks(-1)", () -> x.leaks(-1));
    }

    private static void look() {
        BlockedCars x = parked();
        due("the first place halves", x.look(0), 0);
        due("left", x.look(1), 8);
        Check.spots(x, "0 0 1;1 0 1;");
        due("where one stands that is not told", x.look(0), 1);
        due("left of 4", x.look(1), 2);
        Check.work(x, "leave 0;leave 0;leave 0;");
        Check.spots(x, "1 0 1;");
        due("nothing more is told by a place, so the first", x.look(0), 0);
        due("all are left", x.look(1), 8);
        Check.spots(x, "0 0 0;0 1 0;0 2 0;1 1 1;");
        due("LANE 1, place 0", x.look(0), 10);
        Check.spots(x, "0 0 0;0 1 0;0 2 0;1 1 1;1 0 1;");
        due("no such place", x.look(0), -1);
        due("none left", x.look(1), -1);
        due("no lanes", new BlockedCars().look(1), -1);
        Check.illegal("look(2)", () -> x.look(2));
        Check.illegal("look(-1)", () -> x.look(-1));
    }

    private static void fronts() {
        BlockedCars x = new BlockedCars();
        due("only 0 and 0", x.fronts(0, 5, 5, 0), 1);
        due("is the first", x.fronts(0, 5, 5, 1), 0);
        due("both have 0", x.fronts(0, 5, 5, 2), 0);
        // 0 and 1, 1 and 2, and the other way round; against 0 who bids 2 would have more by 1
        due("rests", x.fronts(2, 3, 5, 0), 4);
        due("the first", x.fronts(2, 3, 5, 1), 1);
        due("together", x.fronts(2, 3, 5, 2), 7);
        // who bids more has less than 0, all others 0
        due("alike ones", x.fronts(1, 0, 0, 0), 2);
        due("by it", x.fronts(1, 0, 0, 2), 0);
        due("k 9", x.fronts(9, 40, 40, 1), 1);
        due("k 9 together", x.fronts(9, 40, 40, 2), 79);
        Check.illegal("k -1", () -> x.fronts(-1, 0, 0, 0));
        Check.illegal("k 10", () -> x.fronts(10, 0, 0, 0));
        Check.illegal("v -1", () -> x.fronts(0, -1, 0, 0));
        Check.illegal("v 41", () -> x.fronts(0, 41, 0, 0));
        Check.illegal("w -1", () -> x.fronts(0, 0, -1, 0));
        Check.illegal("w 41", () -> x.fronts(0, 0, 41, 0));
        Check.illegal("what 3", () -> x.fronts(0, 0, 0, 3));
        Check.illegal("what -1", () -> x.fronts(0, 0, 0, -1));
    }

    /** Moved: 0 five times, 1 twice, 2 never. */
    private static BlockedCars movedOften() {
        return Check.with("lane 1;lane 1;lane 1;car 1 1 0;car 1 1 0;car 1 1 0;",
                "park 1 0;move 1 0 1;move 1 1 0;leave 0;park 0 0;again 2[move 0 0 1;move 0 1 0;];move 0 0 1;");
    }

    private static void pays() {
        BlockedCars x = movedOften();
        due("all, if they are no more", x.pays(0, 7, 7), 5);
        due("all of 1", x.pays(1, 7, 999), 2);
        due("bound 4", x.pays(0, 7, 6), 4);
        due("bound 1 of 3", x.pays(0, 7, 3), 1);
        due("and the other", x.pays(1, 7, 3), 1);
        due("bound 2 of 4", x.pays(0, 7, 4), 2);
        due("of 1 none", x.pays(0, 7, 1), 0);
        due("alone", x.pays(0, 1, 3), 3);
        due("none of them", x.pays(0, 6, 9), 0);
        due("never moved", x.pays(2, 7, 9), 0);
        due("of 0", x.pays(0, 7, 0), 0);
        Check.noSuch("pays(3, ..)", () -> x.pays(3, 99, -1));
        Check.illegal("a bit of no car", () -> x.pays(0, 8, 1));
        Check.illegal("all bits", () -> x.pays(0, -1, 1));
        Check.illegal("n -1", () -> x.pays(0, 1, -1));
        Check.illegal("n 1000", () -> x.pays(0, 1, 1000));
    }

    private static void spare() {
        BlockedCars x = Check.with("lane 1;lane 3;car 1 9 0;car 1 1 0;car 1 2 0;car 1 3 0;", "park 0 0;park 1 1;park 2 1;park 3 1;");
        due("it can't be", x.morning(0), -1);
        // with 2 places more in LANE 0: 3 there, then 2 there: 1, 2, 3 leave
        due("two more", x.spare(20), 2);
        due("in two moves", x.spare(2), 2);
        due("in one it can't be", x.spare(1), -1);
        due("nothing stays changed", x.lane(0, 0), 1);
        // 4 and then 0 to LANE 0, where 1 stands, 5 to LANE 1
        BlockedCars y = Check.with("lane 1;lane 4;lane 4;car 2 5 0;car 1 13 0;car 2 1 0;car 1 4 0;car 2 7 0;car 1 11 0;",
                "park 1 0;park 3 2;park 2 1;park 0 1;park 5 2;park 4 2;");
        due("four more", y.spare(3), 4);
        due("two more for a move more", y.spare(4), 2);
        due("none is in", new BlockedCars().spare(0), 0);
        due("as it is", parked().spare(1), 0);
        due("no places help", parked().spare(0), -1);
        Check.illegal("m -1", () -> x.spare(-1));
        Check.illegal("m 21", () -> x.spare(21));
    }

    private static void next() {
        BlockedCars x = parked();
        due("3 goes at 6", x.next(0), 3);
        due("none ahead", x.next(1), 0);
        Check.work(x, "leave 1;");
        due("1 goes at 7", x.next(0), 1);
        due("one ahead", x.next(1), 1);
        due("by numbers", Check.with(WIDE, "park 3 0;park 1 0;park 2 0;").next(0), 1);
        due("none is in", Check.with(WIDE).next(0), -1);
        due("nor ahead", Check.with(WIDE).next(1), -1);
        Check.illegal("next(2)", () -> x.next(2));
        Check.illegal("next(-1)", () -> x.next(-1));
    }

    private static void most() {
        BlockedCars x = movedOften();
        due("0", x.most(0), 0);
        due("five times", x.most(1), 5);
        BlockedCars y = Check.with("lane 1;lane 1;car 1 1 0;car 1 1 0;car 1 1 0;",
                "park 2 0;move 2 0 1;leave 1;park 1 0;move 1 0 1;");
        due("of alike ones the first", y.most(0), 1);
        due("once", y.most(1), 1);
        due("none was", parked().most(0), -1);
        due("none was: times", parked().most(1), -1);
        Check.illegal("most(2)", () -> x.most(2));
        Check.illegal("most(-1)", () -> x.most(-1));
    }

    private static void days() {
        BlockedCars x = parked();
        // all leave; 2 (9) to LANE 0, 0 (8) to LANE 0, 1 (7) to LANE 1, 3 (2 places) finds no room
        due("in", x.days(5, 1, 0, 0), 7);
        due("pairs", x.days(5, 1, 0, 1), 0);
        due("left", x.days(5, 1, 0, 2), 4);
        due("left in two days", x.days(5, 2, 0, 2), 7);
        due("ill", x.days(5, 60, 0, 3), 0);
        due("nothing stays changed", x.told(2), 15);
        // seed 0: 12345 draws 0 by 16; then 12345 * 1103515245 + 12345 wraps to 3554416254, bits 16 to 30 are 21468: 0 of 4
        due("0 is ill at the wall: 3, and 1 and 2 ahead of it leave", x.days(0, 1, 1, 2), 3);
        due("it was in", x.days(0, 1, 1, 3), 1);
        // 0 stays; 2 (9) to LANE 0 or 1 (room 2 both): LANE 0; 1 to LANE 1; 3 finds no room
        due("in then", x.days(0, 1, 1, 0), 7);
        due("2 is ahead of 0", x.days(0, 1, 1, 1), 1);
        due("q 0 is never", x.days(0, 1, 0, 3), 0);
        Check.work(x, "leave 0;leave 0;leave 0;");
        due("ill, but out", x.days(0, 1, 1, 3), 0);
        due("no cars", new BlockedCars().days(1, 60, 16, 3), 0);
        Check.illegal("many 0", () -> x.days(0, 0, 0, 0));
        Check.illegal("many 61", () -> x.days(0, 61, 0, 0));
        Check.illegal("q -1", () -> x.days(0, 1, -1, 0));
        Check.illegal("q 17", () -> x.days(0, 1, 17, 0));
        Check.illegal("what 4", () -> x.days(0, 1, 0, 4));
        Check.illegal("what -1", () -> x.days(0, 1, 0, -1));
    }

    private static void span() {
        BlockedCars x = parked();
        int fewest = 99;
        int most = 0;
        int in = 0;
        for (int seed = Integer.MAX_VALUE - 4, i = 0; i < 20; i++, seed++) {
            int pairs = x.days(seed, 9, 12, 1);
            fewest = Math.min(fewest, pairs);
            most = Math.max(most, pairs);
            in += x.days(seed, 9, 12, 0) >> 3 & 1;
        }
        due("fewest", x.span(Integer.MAX_VALUE - 4, 20, 9, 12, 0, 0), fewest);
        due("most", x.span(Integer.MAX_VALUE - 4, 20, 9, 12, 1, 0), most);
        due("in", x.span(Integer.MAX_VALUE - 4, 20, 9, 12, 2, 3), in);
        due("3 never finds room", x.span(0, 20, 1, 0, 2, 3), 0);
        due("0 always does", x.span(0, 20, 1, 0, 2, 0), 20);
        for (int what = 0; what <= 2; what++) {
            int asked = what;
            Check.illegal("no such car, what " + what, () -> x.span(0, 1, 1, 0, asked, 4));
            Check.illegal("car -1, what " + what, () -> x.span(0, 1, 1, 0, asked, -1));
        }
        Check.illegal("seeds 0", () -> x.span(0, 0, 1, 0, 0, 0));
        Check.illegal("seeds 21", () -> x.span(0, 21, 1, 0, 0, 0));
        Check.illegal("many 0", () -> x.span(0, 1, 0, 0, 0, 0));
        Check.illegal("many 61", () -> x.span(0, 1, 61, 0, 0, 0));
        Check.illegal("q -1", () -> x.span(0, 1, 1, -1, 0, 0));
        Check.illegal("q 17", () -> x.span(0, 1, 1, 17, 0, 0));
        Check.illegal("what 3", () -> x.span(0, 1, 1, 0, 3, 0));
        Check.illegal("what -1", () -> x.span(0, 1, 1, 0, -1, 0));
    }

    private static void image() {
        BlockedCars x = parked();
        due("one", x.image(), 1);
        due("two", x.image(), 2);
        due("three", x.image(), 3);
        due("there are 3", x.image(), -1);
        due("still", x.count(0), 3);
        x.restore();
        due("room for one", x.image(), 3);
    }

    private static void restore() {
        BlockedCars x = Check.with(YARD);
        due("none", x.restore(), -1);
        Check.work(x, PARKED);
        x.image();
        Check.work(x, "leave 1;move 2 0 1;leave 0;leave 0;leave 0;");
        due("refused", x.told(7), 1);
        due("two works", x.count(2), 2);
        x.image();
        Check.law(x, "9");
        Check.spots(x, "0 0 1;");
        x.undo();
        x.undo();
        Check.work(x, "park 3 1;park 3 1;");
        due("the latest", x.restore(), 1);
        due("works", x.count(2), 2);
        due("refused is 0 behind restore", x.told(7), 0);
        due("in", x.told(2), 4);
        due("where", x.car(2, 3), 1);
        due("moves", x.told(4), 1);
        due("seconds", x.told(3), 35);
        due("the law stays", x.seconds(0, 0), 9);
        due("the spots stay", x.told(6), 1);
        due("undo goes on from there", x.undo(), 1);
        due("in then", x.told(2), 15);
        due("the one before", x.restore(), 0);
        due("in by it", x.told(2), 15);
        due("works by it", x.count(2), 1);
        Check.work(x, "leave 0;park 2 1;");
        due("refused again", x.told(7), 1);
        due("none is left", x.restore(), -1);
        due("which changes nothing", x.told(7), 1);
    }

    private static void status() {
        BlockedCars x = new BlockedCars();
        due("0", x.status(0), 0);
        Check.noSuch("lane", () -> x.lane(0, 9));
        Check.noSuch("car", () -> x.car(0, 9));
        Check.illegal("told", () -> x.told(-1));
        x.image();
        Check.illegal("yard", () -> x.yard(1));
        Check.illegal("most", () -> x.most(9));
        x.restore();
        due("no such", x.status(0), 2);
        due("illegal: no image keeps it", x.status(1), 3);
        due("others", x.status(2), -1);
        due("others below", x.status(-1), -1);
        x.yard(0);
        due("a yard keeps it", x.status(1), 3);
    }

    private static void count() {
        BlockedCars x = parked();
        due("images", x.count(0), 0);
        x.image();
        due("one image", x.count(0), 1);
        due("bytes", x.count(1), 0);
        x.feed(0, 0, 0, 0, 0);
        due("twenty bytes", x.count(1), 20);
        due("works", x.count(2), 1);
        due("others", x.count(3), -1);
        due("others below", x.count(-1), -1);
    }
}
