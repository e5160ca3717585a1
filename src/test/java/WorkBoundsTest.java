/** Promises 5, 8, 9, 31, 32 and 34, and part 2: STEPS that are just done or just REFUSED, the empty and the full. */
public final class WorkBoundsTest {
    /** LANES of 3 and 2 places; 3 takes two places. */
    private static final String YARD = "lane 3;lane 2;car 1 8 2;car 1 7 0;car 1 9 5;car 2 6 1;key 0 1;key 1 2;cost 4;";
    private static final String FULL = "park 0 0;park 1 0;park 2 0;park 3 1;";
    private static final String ONE = "lane 1;lane 1;car 1 5 0;car 1 6 0;";

    public static void main(String[] args) {
        atFirst();
        park();
        withoutGaps();
        move();
        moveSeconds();
        leave();
        swap();
        swapOrder();
        again();
        steps200();
        works16();
        manyMoves();
        undo();
        refusedSteps();
        images();
        imagesKeep();
        yardEndsAll();
        nothingIsLeftOver();
        Check.end("WorkBoundsTest");
    }

    /** A WORK on an object by that yard and those works: so many are done, so many REFUSED. */
    private static BlockedCars work(String sentence, BlockedCars x, String text, int done, int refused) {
        Check.due(5, sentence + ": done of " + text, Check.work(x, text), done);
        Check.due(9, sentence + ": REFUSED of " + text, x.told(7), refused);
        return x;
    }

    /** One STEP that is REFUSED changes nothing but the WORKS that can be undone. */
    private static void refused(String sentence, String yard, String before, String step) {
        BlockedCars x = work(sentence, Check.with(yard, before), step, 0, 1);
        BlockedCars twin = Check.with(yard, before);
        Check.work(twin, "");
        Facts.same(5, "REFUSED, and changes nothing: " + sentence, twin, x, "told(7)");
    }

    private static void atFirst() {
        BlockedCars x = Check.with(YARD);
        Check.due(3, "at first all CARS are out", x.told(2), 0);
        for (int car = 0; car < 4; car++) {
            Check.due(11, "NONE: out", x.car(car, 3), -1);
            Check.due(11, "NONE: no place", x.car(car, 4), -1);
            Check.due(11, "not moved", x.car(car, 5), 0);
        }
        Check.due(9, "ROOM of all LANES together", x.told(8), 5);
        for (int what = 3; what <= 9; what++) {
            Check.due(9, "nothing yet: told(" + what + ")", what == 8 ? 0 : x.told(what), 0);
        }
    }

    private static void park() {
        BlockedCars x = work("park: C is FRONT of L then", Check.with(YARD), "park 3 1;", 1, 0);
        Check.due(10, "FRONT", x.lane(1, 2), 3);
        Check.due(10, "ROOM is just used up", x.lane(1, 1), 0);
        refused("park: it is in", YARD, "park 0 0;", "park 0 0;");
        refused("park: it is in another LANE", YARD, "park 0 0;", "park 0 1;");
        refused("park: one place is not the ROOM for two", YARD, "park 0 1;", "park 3 1;");
        refused("park: no place is not the ROOM for one", YARD, "park 0 1;park 1 1;", "park 2 1;");
        refused("park: a LANE of one place never has the ROOM for two", "lane 1;car 2 1 1;", "", "park 0 0;");
        work("park: the last place", Check.with(YARD, "park 0 1;"), "park 1 1;", 1, 0);
        work("park: two places that are just free", Check.with(YARD, "park 0 0;"), "park 3 0;", 1, 0);
        work("park: out again, it may come in", Check.with(YARD, "park 0 0;leave 0;"), "park 0 1;", 1, 0);
        work("park: four in one LANE", Check.with("lane 4;" + "car 1 1 1;".repeat(5)), "park 4 0;park 3 0;park 2 0;park 1 0;park 0 0;", 4, 1);
    }

    private static void withoutGaps() {
        BlockedCars x = Check.with("lane 4;lane 4;car 1 1 0;car 2 2 0;car 1 3 0;", "park 0 0;park 1 0;park 2 0;");
        Check.due(11, "from the wall on", x.car(0, 4), 0);
        Check.due(11, "without gaps", x.car(1, 4), 1);
        Check.due(11, "behind one of two places", x.car(2, 4), 3);
        Check.due(10, "the last one is its FRONT", x.lane(0, 2), 2);
        Check.due(10, "at the wall", x.lane(0, 4), 0);
        for (int place = 0; place < 4; place++) {
            Check.due(12, "the CAR on place " + place, x.on(0, place), new int[] {0, 1, 1, 2}[place]);
        }
        Check.work(x, "move 2 0 1;move 1 0 1;");
        Check.due(11, "it stands at that wall then", x.car(2, 4), 0);
        Check.due(11, "and this one ahead of it", x.car(1, 4), 1);
        Check.due(10, "ROOM", x.lane(1, 1), 1);
        Check.work(x, "leave 1;leave 1;");
        Check.due(10, "ROOM of an empty LANE", x.lane(1, 1), 4);
    }

    private static void move() {
        refused("move: L is empty", ONE, "park 0 0;", "move 0 1 0;");
        refused("move: L is M", ONE, "park 0 0;", "move 0 0 0;");
        refused("move: L is M, though there is ROOM", "lane 4;lane 1;car 1 5 0;", "park 0 0;", "move 0 0 0;");
        refused("move: L is M and empty", ONE, "park 0 0;", "move 0 1 1;");
        refused("move: there is not the ROOM", ONE, "park 0 0;park 1 1;", "move 0 0 1;");
        refused("move: one place is not the ROOM for two", YARD, "park 3 0;park 0 1;", "move 3 0 1;");
        refused("move: A's owner has no key of it", ONE, "park 0 0;", "move 1 0 1;");
        refused("move: a key of the one behind is none of FRONT", YARD, "park 1 0;park 2 0;", "move 0 0 1;");
        refused("move: who is moved by A has no key of A", YARD, "park 0 0;", "move 1 0 1;");
        refused("move: a key of a key is none", YARD, "park 2 0;", "move 0 0 1;");
        refused("move: he owns one that is not FRONT", YARD, "park 0 0;park 2 0;", "move 0 0 1;");
        work("move: his own, without a key", Check.with(ONE, "park 0 0;"), "move 0 0 1;", 1, 0);
        work("move: by a key, though his own is out", Check.with(YARD, "park 1 0;"), "move 0 0 1;", 1, 0);
        BlockedCars x = work("move: two places that are just free", Check.with(YARD, "park 3 0;"), "move 3 0 1;", 1, 0);
        Check.due(10, "L is empty then", x.lane(0, 2), -1);
        Check.due(10, "FRONT of M then", x.lane(1, 2), 3);
        Check.due(9, "moves in all", x.told(4), 1);
        Check.due(11, "it was moved once more", x.car(3, 5), 1);
        Check.due(9, "SECONDS come to all that were spent", x.told(3), 25);
        Check.due(9, "pence for all moves", x.told(9), 4);
        work("move: the last place", Check.with(YARD, "park 0 1;park 1 0;"), "move 1 0 1;", 1, 0);
    }

    private static void moveSeconds() {
        BlockedCars x = Check.with("lane 2;lane 2;car 1 5 0;car 1 6 0;key 0 1;", "park 0 0;park 1 0;");
        Check.law(x, "(1-own)*50+lane*20+cars*5+moved");
        Check.work(x, "move 1 0 1;");
        Check.due(5, "from LANE 0, two in it, not moved by now, own", x.told(3), 10);
        Check.work(x, "move 0 1 0;");
        Check.due(5, "from LANE 1, alone, moved once by now, not own", x.told(3), 10 + 50 + 20 + 5 + 1);
        Check.law(x, "0-7");
        Check.work(x, "move 1 0 1;");
        Check.due(5, "1 at least", x.told(3), 87);
        Check.law(x, "999");
        Check.due(9, "what was spent stays by a new LAW", x.told(3), 87);
        Check.work(x, "move 1 1 0;");
        Check.due(5, "99 at most", x.told(3), 186);
        BlockedCars y = Check.with("lane 1;lane 1;car 1 5 1;car 1 60 9;key 0 1;", "park 1 0;");
        Check.law(y, "hour+tries*3+car*2+length");
        Check.work(y, "move 0 0 1;");
        Check.due(5, "of the CAR that is moved, not of A", y.told(3), 60 + 27 + 2 + 1);
        Check.work(x, "park 0 1;leave 0;leave 0;leave 0;swap;");
        Check.due(5, "others take no SECONDS", x.told(3), 186);
        Check.due(9, "nor are they moves", x.told(4), 4);
    }

    private static void leave() {
        refused("leave: L is empty", ONE, "park 0 0;", "leave 1;");
        BlockedCars x = work("leave: FRONT of L is out", Check.with(YARD, FULL), "leave 0;", 1, 0);
        Check.due(9, "CARS that are in", x.told(2), 11);
        Check.due(10, "the one behind is FRONT then", x.lane(0, 2), 1);
        work("leave: each once, then it is empty", x, "leave 0;leave 0;leave 0;leave 1;leave 1;", 3, 2);
        Check.due(9, "all are out", x.told(2), 0);
    }

    private static void swap() {
        refused("swap: all are in", YARD, FULL, "swap;");
        refused("swap: none that is out has the ROOM", YARD, "park 0 0;park 1 0;park 2 1;", "swap;");
        refused("swap: no LANES", "car 1 1 1;", "", "swap;");
        refused("swap: no CARS", "lane 4;", "", "swap;");
        BlockedCars none = work("swap: neither", new BlockedCars(), "swap;", 0, 1);
        Check.due(9, "none is in", none.told(2), 0);
        refused("swap: one place is not the ROOM for two", "lane 1;lane 1;lane 1;car 2 1 1;", "", "swap;");
        BlockedCars x = work("swap: one comes in, that is enough", Check.with(YARD, "park 0 0;park 3 1;"), "swap;", 1, 0);
        Check.due(9, "both came in", x.told(2), 15);
        BlockedCars y = work("swap: else it stays out", Check.with("lane 2;car 2 9 0;car 2 8 0;"), "swap;", 1, 0);
        Check.due(9, "the later one is in", y.told(2), 1);
        work("swap: out again, none fits but this one", y, "leave 0;swap;swap;", 2, 1);
    }

    private static void swapOrder() {
        BlockedCars x = Check.with("lane 4;car 1 5 0;car 1 9 0;car 1 5 0;car 1 99 0;", "swap;");
        int[] due = {3, 1, 0, 2};
        for (int place = 0; place < 4; place++) {
            Check.due(5, "those of the latest T first, of alike ones by numbers", x.on(0, place), due[place]);
        }
        BlockedCars alike = Check.with("lane 4;car 1 1 0;car 1 5 0;car 1 5 0;car 1 5 0;", "swap;");
        int[] byNumbers = {1, 2, 3, 0};
        for (int place = 0; place < 4; place++) {
            Check.due(5, "of alike ones by numbers", alike.on(0, place), byNumbers[place]);
        }
        BlockedCars y = Check.with("lane 2;lane 3;lane 3;car 1 9 0;car 1 8 0;car 1 7 0;car 1 6 0;car 1 5 0;car 1 4 0;", "swap;");
        // ROOM 2 3 3: 0 to 1; 2 2 3: 1 to 2; 2 2 2: 2 to 0; 1 2 2: 3 to 1; 1 1 2: 4 to 2; 1 1 1: 5 to 0
        int[] lanes = {1, 2, 0, 1, 2, 0};
        for (int car = 0; car < 6; car++) {
            Check.due(5, "to the LANE with most ROOM then, of alike ones the first", y.car(car, 3), lanes[car]);
        }
        BlockedCars z = Check.with("lane 2;lane 1;car 1 9 0;car 2 8 0;car 1 7 0;", "swap;");
        Check.due(5, "0 to LANE 0, then 2 to LANE 0, too; 1 stays out", z.told(2), 5);
        Check.due(5, "though it is later, it stays out", z.car(2, 3), 0);
        Check.due(5, "of alike ones the first", Check.with("lane 1;lane 1;lane 1;car 1 9 0;", "swap;").car(0, 3), 0);
        BlockedCars in = Check.with("lane 3;lane 1;car 1 1 0;car 1 2 0;", "park 0 0;swap;");
        Check.due(5, "as FRONT: ahead of those that are in", in.lane(0, 2), 1);
    }

    private static void again() {
        BlockedCars x = Check.with(ONE, "park 0 0;");
        work("again 0: not once", x, "again 0 [move 0 0 1;];", 0, 0);
        work("again 1: once", x, "again 1 [move 0 0 1;];", 1, 0);
        work("again 30: thirty times", x, "again 30 [move 0 1 0;move 0 0 1;];", 60, 0);
        work("agains are not counted", x, "again 2 [again 3 [move 0 1 0;move 0 0 1;];];", 12, 0);
        work("nor are REFUSED ones", x, "again 2 [again 3 [move 0 1 0;move 0 1 0;];];", 1, 11);
        work("again 0 in an again", x, "again 30 [again 0 [leave 0;];];leave 0;", 1, 0);
        work("what is behind an again 0 is done", x, "again 0 [again 5 [leave 0;];leave 0;];park 0 1;", 1, 0);
        work("an empty again", x, "again 30 [];leave 1;", 1, 0);
        work("agains one behind the other", x, "again 2 [swap;leave 0;];again 2 [swap;leave 0;];", 8, 0);
    }

    /** "again 22 [" with nine STEPS begins 199 STEPS in all. */
    private static String begins199(String nine) {
        return "again 22[" + nine + "];";
    }

    private static void steps200() {
        String nine = "leave 1;".repeat(9);
        BlockedCars x = work("the 200th is begun", Check.with(ONE), begins199(nine) + "park 0 0;", 1, 198);
        Check.due(5, "it is in", x.told(2), 1);
        BlockedCars y = work("the 201st is left out", Check.with(ONE), begins199(nine) + "park 0 0;park 1 0;", 1, 198);
        Check.due(5, "nor was it REFUSED", y.told(2), 1);
        work("the 200th may be REFUSED", Check.with(ONE), begins199(nine) + "leave 0;park 0 0;", 0, 199);
        work("an again is one, too", Check.with(ONE), begins199(nine) + "again 1[park 0 0;];park 1 0;", 0, 198);
        work("an again is one, too, be it of 0", Check.with(ONE), begins199(nine) + "again 0[];park 0 0;", 0, 198);
        work("each time it is come to: 1 and 20 by 1 are 21, 189 and again 10", Check.with(ONE),
                "again 30[again 20[leave 0;];];park 0 0;", 0, 189);
        work("each time it is come to: empty ones", Check.with(ONE),
                "again 22[" + "again 9[];".repeat(9) + "];park 0 0;park 1 1;", 1, 0);
        work("each time it is come to: among others", Check.with(ONE),
                "again 22[" + "again 0[];".repeat(4) + "leave 1;".repeat(5) + "];park 0 0;park 1 0;", 1, 110);
        // 1, then 15 times 13, then the inner again and three STEPS
        BlockedCars cut = work("a round that is not ended is not gone on with", Check.with(ONE),
                "again 30[again 2[swap;leave 0;leave 1;leave 0;leave 1;again 1[];];];park 0 0;", 93, 60);
        Check.due(5, "what comes behind is left out", cut.told(2), 0);
        work("the next WORK begins its own 200", x, begins199(nine) + "leave 0;", 1, 198);
        BlockedCars deep = Check.with(ONE);
        work("agains in agains, all empty, end", deep, "again 30[again 30[again 30[again 30[again 30[again 30[];];];];];];park 0 0;", 0, 0);
        Check.due(5, "what comes behind is left out", deep.told(2), 0);
    }

    private static void works16() {
        BlockedCars x = Check.with(YARD);
        for (int i = 1; i <= 16; i++) {
            Check.due(5, "a WORK of no STEPS is one", x.work(0), 0);
            Check.due(34, "WORKS that can be undone", x.count(2), i);
        }
        Check.due(5, "16 are there", Check.work(x, "park 0 0;"), -20);
        Check.due(5, "-20: none is done", x.told(2), 0);
        Check.due(34, "-20: it is no WORK", x.count(2), 16);
        Check.due(5, "-20: the TAPE is empty then", x.count(1), 0);
        Check.due(5, "-20 with n 0", x.work(0), -20);
        Check.yard(x, "?");
        Check.due(7, "a FAULT", x.fault(), 0);
        Check.due(5, "-20 ahead of a FAULT", Check.work(x, "??"), -20);
        Check.due(7, "there is no FAULT", x.fault(), -1);
        Check.put(x, "park 0 0;" + " ".repeat(200));
        int held = x.count(1);
        for (int n : new int[] {-1, 151, held + 1}) {
            Check.illegal(5, "a wrong n ahead of -20: " + n, () -> x.work(n));
            Check.due(5, "the TAPE stays", x.count(1), held);
        }
        Check.due(5, "-20: also what is behind n is gone", x.work(9), -20);
        Check.due(34, "the TAPE is empty then", x.count(1), 0);
        Check.due(8, "one is undone", x.undo(), 15);
        Check.due(5, "a FAULT is none", Check.work(x, "?"), -9);
        Check.due(34, "nor is it a WORK", x.count(2), 15);
        Check.due(5, "so there is one more", Check.work(x, "park 0 0;"), 1);
        Check.due(5, "and no more", Check.work(x, "leave 0;"), -20);
        for (int left = 15; left >= 0; left--) {
            Check.due(8, "how many are left", x.undo(), left);
        }
        Check.due(8, "there is none", x.undo(), -1);
        BlockedCars y = Check.with(YARD, FULL, "leave 0;leave 1;leave 1;");
        for (int i = 3; i <= 16; i++) {
            y.work(0);
        }
        Check.work(y, "swap;swap;");
        BlockedCars twin = Check.with(YARD, FULL, "leave 0;leave 1;leave 1;");
        for (int i = 3; i <= 16; i++) {
            twin.work(0);
        }
        Facts.same(5, "-20 changes nothing", twin, y);
    }

    private static void manyMoves() {
        BlockedCars x = Check.with("lane 1;lane 1;car 1 9 9;car 1 5 0;cost 40;", "park 0 0;");
        Check.law(x, "moved");
        int seconds = 0;
        for (int i = 0; i < 15; i++) {
            work("192 moves", x, "again 24[" + "move 0 0 1;move 0 1 0;".repeat(4) + "];", 192, 0);
        }
        for (int moved = 0; moved < 2880; moved++) {
            seconds += Math.max(1, Math.min(99, moved));
        }
        Check.due(9, "moves in all", x.told(4), 2880);
        Check.due(9, "SECONDS in all", x.told(3), seconds);
        Check.due(9, "pence for all moves", x.told(9), 2880 * 40);
        Check.due(28, "how often", x.most(1), 2880);
        Check.due(11, "how often it was moved", x.car(0, 5), 2880);
        Check.due(25, "of n: 999", x.pays(0, 1, 999), 999);
        Check.due(5, "16 are there", x.work(0), -20);
    }

    private static void undo() {
        BlockedCars x = new BlockedCars();
        Check.due(8, "-1: there is none, of a new object", x.undo(), -1);
        Facts.same(8, "-1 changes nothing", new BlockedCars(), x);
        BlockedCars y = Check.with(YARD, FULL, "leave 1;move 2 0 1;swap;", "leave 0;leave 0;leave 1;");
        Check.due(8, "the latest WORK is undone", y.undo(), 2);
        Facts.same(8, "all is as it was before it", Check.with(YARD, FULL, "leave 1;move 2 0 1;swap;"), y, "told(7)");
        BlockedCars z = Check.with(YARD, FULL, "leave 1;move 2 0 1;swap;", "leave 0;leave 0;leave 1;");
        z.undo();
        Check.due(8, "the one before it, too", z.undo(), 1);
        Facts.same(8, "all is as it was before both", Check.with(YARD, FULL), z);
        BlockedCars w = Check.with(YARD, FULL);
        Check.due(5, "a FAULT", Check.work(w, "leave 9;"), -8);
        Check.due(8, "a WORK with a FAULT is none: the one before is undone", w.undo(), 0);
        Check.due(8, "all are out", w.told(2), 0);
        BlockedCars v = Check.with(YARD, FULL, "leave 0;");
        Check.law(v, "77");
        Check.spots(v, "0 0 1;");
        Check.law(v, "77+?");
        v.feed(0, 0, 0, 0, 0);
        v.undo();
        Check.due(8, "the place of the FAULT stays", v.fault(), 3);
        Check.due(8, "the LAW stays", v.seconds(0, 0), 77);
        Check.due(8, "the SPOTS stay", v.told(6), 1);
        Check.due(8, "the TAPE stays", v.count(1), 20);
        v.work(0);
        Check.due(8, "work goes on from there", v.count(2), 2);
        Check.due(8, "one by which nothing was done can be undone", v.undo(), 1);
        Check.due(8, "nothing was done", v.told(2), 15);
    }

    private static void refusedSteps() {
        BlockedCars x = Check.with(YARD);
        Check.due(9, "0 ahead of any", x.told(7), 0);
        Check.work(x, FULL + "swap;swap;");
        Check.due(9, "STEPS REFUSED by the latest WORK", x.told(7), 2);
        Check.work(x, "?");
        Check.due(9, "a FAULT: the latest WORK is the one before", x.told(7), 2);
        Check.illegal(5, "a wrong n", () -> x.work(-1));
        Check.due(9, "a refused call: likewise", x.told(7), 2);
        Check.law(x, "5");
        Check.spots(x, "0 0 1;");
        x.image();
        Check.yard(x, "?");
        Check.due(9, "law, spots, image, a yard with a FAULT: likewise", x.told(7), 2);
        x.undo();
        Check.due(9, "0 behind undo()", x.told(7), 0);
        Check.work(x, "leave 0;");
        Check.due(9, "of the latest", x.told(7), 1);
        x.restore();
        Check.due(9, "0 behind restore()", x.told(7), 0);
        Check.work(x, "swap;");
        Check.due(9, "of the latest", x.told(7), 1);
        Check.due(32, "-1: there is none", x.restore(), -1);
        Check.due(9, "-1: nothing was restored, so it stays", x.told(7), 1);
        Check.work(x, "leave 0;");
        Check.due(9, "0 by one without any", x.told(7), 0);
        Check.work(x, "leave 0;leave 0;leave 0;");
        for (int i = x.count(2); i < 16; i++) {
            Check.work(x, "leave 0;");
        }
        Check.due(5, "16 are there", Check.work(x, "swap;swap;swap;"), -20);
        Check.due(9, "-20: the latest WORK is the one before", x.told(7), 1);
        x.yard(0);
        Check.due(9, "0 ahead of any of a new YARD", x.told(7), 0);
    }

    private static void images() {
        BlockedCars x = Check.with(YARD);
        Check.due(32, "-1: there is none", x.restore(), -1);
        Facts.same(32, "-1 changes nothing", Check.with(YARD), x);
        BlockedCars y = Check.with(YARD);
        Check.due(34, "0 IMAGES", y.count(0), 0);
        Check.due(31, "how many there are", y.image(), 1);
        Check.work(y, "park 0 0;");
        Check.due(31, "how many there are", y.image(), 2);
        Check.work(y, "park 1 0;");
        Check.due(31, "how many there are", y.image(), 3);
        Check.work(y, "park 2 0;");
        Check.due(34, "3 IMAGES", y.count(0), 3);
        Check.due(31, "-1: there are 3", y.image(), -1);
        Check.due(34, "still 3", y.count(0), 3);
        Check.due(31, "-1 changes nothing now", y.told(2), 7);
        Check.due(32, "the latest IMAGE: how many are left", y.restore(), 2);
        Check.due(32, "it is not the one that was refused", y.told(2), 3);
        Check.due(32, "its WORKS", y.count(2), 2);
        Check.due(31, "there is room for one again", y.image(), 3);
        Check.due(32, "the same again", y.restore(), 2);
        Check.due(32, "which is gone", y.restore(), 1);
        Check.due(32, "the one before it", y.told(2), 1);
        Check.due(32, "the first one", y.restore(), 0);
        Check.due(32, "all are out", y.told(2), 0);
        Check.due(34, "no WORKS", y.count(2), 0);
        Check.due(8, "nothing to undo", y.undo(), -1);
        Check.due(32, "-1: there is none left", y.restore(), -1);
        BlockedCars z = Check.with(YARD, FULL, "leave 0;");
        Check.due(31, "image", z.image(), 1);
        Facts.same(31, "an IMAGE changes nothing else", Check.with(YARD, FULL, "leave 0;"), z, "count(0)",
                "restore() of 1", "image 1, cars in by work 2", "image 1, seconds by work 2", "image 1, undo of work 2",
                "image 1, cars in by work 1", "image 1, seconds by work 1", "image 1, undo of work 1",
                "image 1, cars in by work 0", "image 1, seconds by work 0", "image 1, undo of work 0");
    }

    private static void imagesKeep() {
        BlockedCars x = Check.with(YARD, FULL, "leave 1;move 2 0 1;", "move 2 1 0;swap;");
        x.image();
        x.undo();
        x.undo();
        Check.work(x, "leave 0;leave 0;leave 0;");
        Check.work(x, "leave 1;");
        Check.due(32, "none is left", x.restore(), 0);
        Facts.same(32, "all that is as in the latest IMAGE", Check.with(YARD, FULL, "leave 1;move 2 0 1;", "move 2 1 0;swap;"), x);
        BlockedCars y = Check.with(YARD, FULL);
        y.image();
        Check.law(y, "77");
        Check.spots(y, "0 0 1;");
        y.feed(0, 0, 0, 0, 0);
        Check.illegal(9, "another what", () -> y.told(10));
        Check.noSuch(11, "no such CAR", () -> y.car(4, 0));
        y.restore();
        Check.due(32, "no IMAGE keeps the LAW", y.seconds(0, 0), 77);
        Check.due(32, "no IMAGE keeps the SPOTS", y.told(6), 1);
        Check.due(32, "no IMAGE keeps the TAPE", y.count(1), 20);
        Check.due(33, "no IMAGE keeps it", y.status(0), 1);
        Check.due(33, "no IMAGE keeps it", y.status(1), 1);
        BlockedCars full = Check.with(YARD);
        for (int i = 1; i <= 16; i++) {
            Check.work(full, i % 2 == 1 ? "park 0 0;" : "move 0 0 1;leave 1;");
        }
        full.image();
        for (int i = 0; i < 16; i++) {
            full.undo();
        }
        Check.due(32, "restore", full.restore(), 0);
        Check.due(32, "sixteen WORKS come back", full.count(2), 16);
        Check.due(5, "so there is no room for one", full.work(0), -20);
        for (int left = 15; left >= 0; left--) {
            Check.due(8, "each can be undone", full.undo(), left);
            Check.due(8, "and leaves what was before it", full.told(2), left % 2);
            Check.due(8, "and how often it was moved", full.told(4), left / 2);
        }
        BlockedCars early = Check.with(YARD);
        early.image();
        for (int i = 0; i < 16; i++) {
            early.work(0);
        }
        Check.due(32, "an IMAGE ahead of any WORK", early.restore(), 0);
        Check.due(32, "there is none to undo", early.count(2), 0);
        Check.due(5, "and room for some", Check.work(early, "park 0 0;"), 1);
    }

    private static void yardEndsAll() {
        BlockedCars x = Check.with(YARD, FULL, "leave 1;move 2 0 1;swap;", "leave 0;leave 0;leave 0;leave 0;");
        Check.law(x, "77");
        Check.spots(x, "0 0 1;");
        x.image();
        x.image();
        Check.due(3, "the YARD", Check.yard(x, YARD), 4);
        Facts.same(3, "no LAW, SPOTS, IMAGES, nothing to undo", Check.with(YARD), x);
        BlockedCars y = Check.with(YARD, FULL);
        y.image();
        Check.due(1, "a YARD without CLAUSES", y.yard(0), 0);
        Facts.same(1, "as a new object", new BlockedCars(), y);
    }

    /** Texts, sound and with FAULTS, that tell what the next one does not: nothing of them is left in it. */
    private static void nothingIsLeftOver() {
        String rich = "lane 4;lane 4;lane 4;car 2 9 9;car 1 8 8;car 1 8 8;car 1 7 7;car 2 8 6;car 1 5 5;key 0 1;key 1 0;key 5 4;cost 40;";
        String[] nexts = {"", "lane 1;lane 1;car 1 1 1;", "lane 3;lane 2;car 1 8 2;car 1 7 0;car 1 9 5;car 2 6 1;",
            "lane 2;lane 2;lane 2;car 1 3 0;car 1 3 0;car 1 3 0;car 1 3 0;car 1 3 0;car 1 3 0;"};
        for (String next : nexts) {
            for (int before = 1; before <= 4; before++) {
                BlockedCars x = new BlockedCars();
                for (int i = 0; i < before; i++) {
                    Check.yard(x, i % 3 == 2 ? rich + "lane 9;" : rich);
                    Check.law(x, "77");
                    Check.law(x, i % 2 == 0 ? "78" : "1+?");
                    Check.spots(x, "0 0 1;1 1 1;2 2 1;");
                    Check.spots(x, i % 2 == 0 ? "0 1 1;" : "0 0 1;9");
                    Check.work(x, "swap;move 0 0 1;move 1 1 2;leave 2;swap;leave 0;");
                    x.image();
                    x.look(0);
                    x.morning(0);
                }
                Check.yard(x, next);
                BlockedCars fresh = Check.with(next);
                lives(x);
                lives(fresh);
                Facts.same(3, "nothing of " + before + " YARDS before is left: " + next, fresh, x);
            }
        }
    }

    private static void lives(BlockedCars x) {
        Check.spots(x, "0 0 0;");
        Check.work(x, "swap;move 0 0 1;leave 0;");
        Check.law(x, "1+?");
        x.image();
    }
}
