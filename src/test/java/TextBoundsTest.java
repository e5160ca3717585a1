/** Promises 2 to 7: of the TAPE and the four texts the least and the most that is taken, and the first that is not. */
public final class TextBoundsTest {
    /** Three LANES of 4, 3 and 2 places, six CARS. */
    private static final String YARD = "lane 4;lane 3;lane 2;car 1 8 2;car 1 7 0;car 2 9 5;car 1 6 1;car 2 5 3;car 1 4 9;key 0 1;cost 7;";
    private static final int[] FACTS = {2, 3, 50, 4, 1, 3, 20, 1};

    public static void main(String[] args) {
        tape();
        tapeOrder();
        lengths();
        yardNumbers();
        yardMany();
        yardFaults();
        lawNumbers();
        lawValues();
        lawWraps();
        lawWords();
        lawFaults();
        lawOpen();
        workNumbers();
        workFaults();
        workOpen();
        spotsNumbers();
        spotsFaults();
        numbers();
        words();
        blanks();
        strangeBytes();
        textsThatEnd();
        places();
        Check.end("TextBoundsTest");
    }

    private static int promiseOf(char kind) {
        return kind == 'y' ? 3 : kind == 'l' ? 4 : kind == 'w' ? 5 : 6;
    }

    /** With a LAW, SPOTS, two WORKS (a STEP of the second was REFUSED) and an IMAGE. */
    private static BlockedCars ready() {
        BlockedCars x = Check.with(YARD, "park 0 0;park 1 0;park 2 0;park 3 1;park 4 1;");
        x.image();
        Check.work(x, "move 2 0 2;leave 2;leave 2;");
        Check.law(x, "length*20+tries*3+moved+own");
        Check.spots(x, "0 0 1;1 0 0;");
        return x;
    }

    private static String named(char kind, String text) {
        String word = kind == 'y' ? "yard" : kind == 'l' ? "law" : kind == 'w' ? "work" : "spots";
        return word + " '" + (text.length() > 90 ? text.substring(0, 40) + ".." + text.substring(text.length() - 40) : text) + "'";
    }

    private static BlockedCars sound(char kind, String sentence, String text, int answer) {
        BlockedCars x = ready();
        String what = sentence + ": " + named(kind, text);
        Check.put(x, text);
        Check.due(promiseOf(kind), what, Check.read(x, kind, text.length()), answer);
        Check.due(7, "NONE without: " + what, x.fault(), -1);
        Check.due(promiseOf(kind), "the TAPE is empty then: " + what, x.count(1), 0);
        return x;
    }

    private static void faulty(char kind, String sentence, String text, int fault, int place) {
        BlockedCars x = ready();
        String what = sentence + ": " + named(kind, text);
        Check.put(x, text);
        Check.due(promiseOf(kind), "the FAULT less 10: " + what, Check.read(x, kind, text.length()), fault - 10);
        Check.due(7, "the place of the FAULT: " + what, x.fault(), place);
        Check.due(promiseOf(kind), "the TAPE is empty then: " + what, x.count(1), 0);
        Facts.same(promiseOf(kind), "all stays: " + what, ready(), x, "fault()");
    }

    // ---- Promise 2

    private static void tape() {
        BlockedCars x = new BlockedCars();
        Check.due(34, "bytes of the TAPE: a new one is empty", x.count(1), 0);
        for (int i = 1; i <= 30; i++) {
            Check.due(2, "how many there are", x.feed(0x20202020, 0x20202020, 0x20202020, 0x20202020, 0x20202020), 20 * i);
        }
        for (int i = 0; i < 3; i++) {
            Check.due(2, "NONE if there would be more than 600", x.feed(0x78787878, 0x78787878, 0x78787878, 0x78787878, 0x78787878), -1);
            Check.due(2, "doing nothing: as many bytes", x.count(1), 600);
        }
        Check.due(2, "doing nothing: the same bytes", x.yard(600), 0);
        Check.due(2, "doing nothing: no FAULT among them", x.fault(), -1);
        Check.due(2, "an empty TAPE takes twenty again", x.feed(0, 0, 0, 0, 0), 20);
        BlockedCars y = new BlockedCars();
        Check.put(y, " ".repeat(580));
        Check.due(2, "580 and 20 are not more than 600", y.feed(0, 0, 0, 0, 0x20202078), 600);
        Check.due(2, "the last byte is read as the 600th", y.yard(600), -9);
        Check.due(7, "the first of those zeros", y.fault(), 580);
        BlockedCars z = ready();
        Check.put(z, " ".repeat(600));
        z.feed(1, 2, 3, 4, 5);
        BlockedCars twin = ready();
        Check.put(twin, " ".repeat(600));
        Facts.same(2, "a feed too many changes nothing else", twin, z);
    }

    private static void tapeOrder() {
        for (int at = 0; at < 20; at++) {
            int[] w = {0x20202020, 0x20202020, 0x20202020, 0x20202020, 0x20202020};
            w[at / 4] += (0xE5 - 0x20) << 24 - 8 * (at % 4);
            BlockedCars x = new BlockedCars();
            x.feed(w[0], w[1], w[2], w[3], w[4]);
            Check.due(2, "of each number the highest first: a FAULT by byte " + at, x.yard(20), -9);
            Check.due(2, "of each number the highest first: at byte " + at, x.fault(), at);
        }
        BlockedCars x = new BlockedCars();
        x.feed(0x6c616e65, 0x20323b20, 0x20202020, 0x20202020, 0x20202020);
        x.feed(0x6c616e65, 0x20333b20, 0x20202020, 0x20202020, 0x20202020);
        Check.due(2, "bytes come behind those that are there", x.yard(40), 0);
        Check.due(2, "the first lane", x.lane(0, 0), 2);
        Check.due(2, "the second lane", x.lane(1, 0), 3);
    }

    // ---- how many bytes

    private static void lengths() {
        for (char kind : new char[] {'y', 'l', 'w', 's'}) {
            int p = promiseOf(kind);
            int most = kind == 'y' ? 600 : kind == 's' ? 60 : 150;
            String text = kind == 'l' ? "7" : "";
            String filled = text + " ".repeat(most - text.length());
            BlockedCars x = ready();
            for (int n : new int[] {-1, 1, 20, most + 1, Integer.MIN_VALUE, Integer.MAX_VALUE}) {
                Check.illegal(p, "n is not 0 to the TAPE's bytes: " + n + " of an empty one", () -> Check.read(x, kind, n));
            }
            Check.put(x, filled);
            int held = x.count(1);
            for (int n : new int[] {-1, held + 1, most + 1, Integer.MIN_VALUE, Integer.MAX_VALUE}) {
                Check.illegal(p, "n is not 0 to " + most + ": " + n, () -> Check.read(x, kind, n));
                Check.due(p, "it stays", x.count(1), held);
            }
            Check.due(p, "n is " + most, Check.read(x, kind, most), kind == 'l' ? 1 : 0);
            Check.due(p, "the TAPE is empty then", x.count(1), 0);
            BlockedCars y = ready();
            Check.put(y, filled.substring(0, 20));
            Check.illegal(p, "one more than the TAPE's bytes", () -> Check.read(y, kind, 21));
            Check.due(p, "all of the TAPE's bytes", Check.read(y, kind, 20), kind == 'l' ? 1 : 0);
            BlockedCars z = ready();
            Check.put(z, "?".repeat(20));
            Check.due(p, "n is 0: nothing of the TAPE is read", Check.read(z, kind, 0), kind == 'l' ? -9 : 0);
            Check.due(p, "n is 0: the TAPE is empty then", z.count(1), 0);
            BlockedCars w = ready();
            Check.put(w, text + " ".repeat(19 - text.length()) + "?");
            Check.due(p, "the first n bytes alone", Check.read(w, kind, 19), kind == 'l' ? 1 : 0);
            Check.due(p, "those behind them are gone, too", w.count(1), 0);
        }
        // every byte counts, the last one too
        BlockedCars full = sound('y', "up to 600 bytes", "lane 2;car 1 5 0" + " ".repeat(583) + ";", 1);
        Check.due(3, "up to 600 bytes: the car's hour", full.car(0, 1), 5);
        faulty('y', "up to 600 bytes, the last one", "lane 2;car 1 5 0" + " ".repeat(583) + "x", 1, 599);
        faulty('y', "up to 600 bytes, one is missing", "lane 2;car 1 5 0" + " ".repeat(584), 1, 600);
        BlockedCars law = sound('l', "up to 150 bytes", "1+".repeat(74) + "24", 1);
        Check.due(4, "up to 150 bytes: all are added", by(law, FACTS), 98);
        faulty('l', "up to 150 bytes, the last one", "1+".repeat(74) + "2x", 1, 149);
        faulty('l', "up to 150 bytes, one is missing", "1+".repeat(75), 1, 150);
        BlockedCars work = sound('w', "up to 150 bytes", "leave 2;".repeat(17) + "leave 0" + " ".repeat(6) + ";", 1);
        Check.due(5, "up to 150 bytes: seventeen of an empty LANE", work.told(7), 17);
        Check.due(5, "up to 150 bytes: thirty steps", sound('w', "up to 150 bytes", "swap;".repeat(30), 1).told(7), 29);
        faulty('w', "up to 150 bytes, the last one", "swap;".repeat(29) + "swap,", 1, 149);
        faulty('w', "up to 150 bytes, one is missing", "swap;".repeat(29) + "swap ", 1, 150);
        BlockedCars spots = sound('s', "up to 60 bytes", "0 0 1;0 1 1;0 2 1;0 3 1;1 0 0;1 1 0;1 2 0;2 0 0;2 1  000000;", 9);
        Check.due(9, "lines of the SPOTS", spots.told(6), 9);
        faulty('s', "up to 60 bytes, the last one", "0 0 1;0 1 1;0 2 1;0 3 1;1 0 0;1 1 0;1 2 0;2 0 0;2 1  000000]", 1, 59);
        faulty('s', "up to 60 bytes, one is missing", "0 0 1;0 1 1;0 2 1;0 3 1;1 0 0;1 1 0;1 2 0;2 0 0;2 1  000000 ", 1, 60);
    }

    // ---- Promise 3

    private static void yardNumbers() {
        for (int n = 1; n <= 4; n++) {
            Check.due(3, "N places, 1 to 4", sound('y', "N places, 1 to 4", "lane " + n + ";", 0).lane(0, 0), n);
        }
        faulty('y', "N places, 1 to 4", "lane 0;", 2, 5);
        faulty('y', "N places, 1 to 4", "lane 5;", 2, 5);
        faulty('y', "N places, 1 to 4", "lane 4;lane 1; lane  10;", 2, 21);
        for (int n = 1; n <= 2; n++) {
            Check.due(3, "L 1 or 2", sound('y', "L 1 or 2", "car " + n + " 0 0;", 1).car(0, 0), n);
        }
        faulty('y', "L 1 or 2", "car 0 0 0;", 2, 4);
        faulty('y', "L 1 or 2", "car 3 0 0;", 2, 4);
        for (int t : new int[] {0, 1, 98, 99}) {
            Check.due(3, "T 0 to 99", sound('y', "T 0 to 99", "car 1 " + t + " 0;", 1).car(0, 1), t);
        }
        faulty('y', "T 0 to 99", "car 1 100 0;", 2, 6);
        for (int s = 0; s <= 9; s++) {
            Check.due(3, "S 0 to 9", sound('y', "S 0 to 9", "car 2 50 " + s + ";", 1).car(0, 2), s);
        }
        faulty('y', "S 0 to 9", "car 2 50 10;", 2, 9);
        Check.due(3, "a key: his own he may", sound('y', "key 0 0", "car 1 1 1;key 0 0;", 1).car(0, 6), 1);
        faulty('y', "CAR A, told ahead", "key 0 0;car 1 1 1;", 2, 4);
        faulty('y', "CAR A, told ahead", "car 1 1 1;key 1 0;", 2, 14);
        faulty('y', "CAR B, told ahead", "car 1 1 1;key 0 1;car 1 1 1;", 2, 16);
        Check.due(3, "told ahead is enough", sound('y', "key 0 1", "car 1 1 1;car 1 1 1;key 0 1;car 1 1 1;key 0 2;", 3).car(0, 6), 7);
        String six = "car 1 1 1;".repeat(6);
        Check.due(3, "the last CAR has a key of the first", sound('y', "key 5 0", six + "key 5 0;", 6).car(5, 6), 33);
        Check.due(3, "the first CAR has a key of the last", sound('y', "key 0 5", six + "key 0 5;", 6).car(0, 6), 33);
        Check.due(3, "a key told twice is one", sound('y', "key 0 5", six + "key 0 5;key 0 5;", 6).car(0, 6), 33);
        Check.due(3, "a key is not the other way round", sound('y', "key 0 5", six + "key 0 5;", 6).car(5, 6), 32);
        faulty('y', "no seventh has a key", six + "key 6 0;", 2, 64);
        faulty('y', "of no seventh there is a key", six + "key 0 6;", 2, 66);
        for (int cost : new int[] {0, 1, 39, 40}) {
            BlockedCars x = sound('y', "0 to 40 pence", "lane 1;lane 1;car 1 1 1;cost " + cost + ";", 1);
            Check.work(x, "park 0 0;move 0 0 1;");
            Check.due(3, "0 to 40 pence a move", x.told(9), cost);
        }
        faulty('y', "0 to 40 pence", "cost 41;", 2, 5);
        faulty('y', "0 to 40 pence: also one that would not count", "cost 41;cost 40;", 2, 5);
        BlockedCars x = sound('y', "5 without", "lane 1;lane 1;car 1 1 1;", 1);
        Check.work(x, "park 0 0;move 0 0 1;");
        Check.due(3, "5 without", x.told(9), 5);
        for (String before : new String[] {"cost 40;", "cost 40;lane 9;", "cost 40"}) {
            for (int times = 1; times <= 3; times++) {
                BlockedCars z = new BlockedCars();
                for (int i = 0; i < times; i++) {
                    Check.yard(z, before);
                }
                Check.yard(z, "lane 1;lane 1;car 1 1 1;");
                Check.work(z, "park 0 0;move 0 0 1;");
                Check.due(3, "5 without, whatever was told before", z.told(9), 5);
            }
        }
        BlockedCars y = sound('y', "the last counts", "cost 40;lane 1;lane 1;cost 39;car 1 1 1;cost 3;", 1);
        Check.work(y, "park 0 0;move 0 0 1;");
        Check.due(3, "the last counts", y.told(9), 3);
    }

    private static void yardMany() {
        BlockedCars none = sound('y', "a YARD without CLAUSES", "", 0);
        Check.due(3, "no LANES", none.told(0), 0);
        Check.due(3, "no CARS", none.told(1), 0);
        sound('y', "blanks alone", "    ", 0);
        BlockedCars x = sound('y', "LANES, 3 at most", "lane 1;lane 2;lane 3;", 0);
        Check.due(3, "numbered from 0 on", 100 * x.lane(0, 0) + 10 * x.lane(1, 0) + x.lane(2, 0), 123);
        faulty('y', "3 a LANE, at its word", "lane 1;lane 2;lane 3;lane 4;", 3, 21);
        faulty('y', "3 a LANE, at its word, whatever comes behind", "lane 1;lane 2;lane 3;  lane 9", 3, 23);
        faulty('y', "3 a LANE, at its word, at the end", "lane 1;lane 2;lane 3;cost 1; lane", 3, 29);
        BlockedCars six = sound('y', "CARS likewise, 6", "car 1 1 1;car 2 2 2;car 1 3 3;car 2 4 4;car 1 5 5;car 2 6 6;", 6);
        for (int car = 0; car < 6; car++) {
            Check.due(3, "CARS are numbered from 0 on", six.car(car, 1), car + 1);
        }
        faulty('y', "3 a CAR, at its word", "car 1 1 1;".repeat(7), 3, 60);
        faulty('y', "3 a CAR, at its word, whatever comes behind", "car 1 1 1;".repeat(6) + " car;", 3, 61);
        Check.due(3, "three LANES and six CARS", sound('y', "both", "car 1 1 1;".repeat(6) + "lane 4;".repeat(3), 6).told(0), 3);
        sound('y', "at most 60", "cost 1;".repeat(59), 0);
        sound('y', "at most 60", "cost 1;".repeat(60), 0);
        sound('y', "at most 60, and blanks", "cost 1;".repeat(60) + "     ", 0);
        Check.due(3, "the 60th counts", sound('y', "at most 60", "lane 1;".repeat(1) + "cost 1;".repeat(58) + "car 1 1 1;", 1).told(0), 1);
        faulty('y', "3 a CLAUSE, at its word", "cost 1;".repeat(61), 3, 420);
        faulty('y', "3 a CLAUSE, at its word", "cost 1;".repeat(60) + "  lane 1;", 3, 422);
        faulty('y', "3 a CLAUSE, at its word", "cost 1;".repeat(60) + "car", 3, 420);
        faulty('y', "3 a CLAUSE, at its word", "car 1 1 1;" + "cost 1;".repeat(59) + " key 0 0;", 3, 424);
        faulty('y', "of one the least: 1 ahead of 3", "cost 1;".repeat(60) + "lanes 1;", 1, 420);
        faulty('y', "of one the least: 1 ahead of 3", "cost 1;".repeat(60) + " ;", 1, 421);
        faulty('y', "of one the least: 1 ahead of 3", "cost 1;".repeat(60) + "1", 1, 420);
        faulty('y', "of one the least: 1 ahead of 3", "lane 1;".repeat(3) + "lan 1;", 1, 21);
        faulty('y', "the first from the left: 2 ahead of a CLAUSE too many", "cost 1;".repeat(59) + "cost 41;cost 1;", 2, 418);
        faulty('y', "keys are CLAUSES, too", "car 1 1 1;" + "key 0 0;".repeat(60), 3, 482);
    }

    private static void yardFaults() {
        faulty('y', "1 what can't stand there", "lane;", 1, 4);
        faulty('y', "1 what can't stand there", "lane 1 1;", 1, 7);
        faulty('y', "1 what can't stand there", "lane 1;;", 1, 7);
        faulty('y', "1 what can't stand there", ";", 1, 0);
        faulty('y', "1 what can't stand there", "lane 1,", 1, 6);
        faulty('y', "1 what can't stand there", "lane a;", 1, 5);
        faulty('y', "1 what can't stand there", "car 1 1;", 1, 7);
        faulty('y', "1 what can't stand there", "car 1 1 1 1;", 1, 10);
        faulty('y', "1 what can't stand there", "car 1 1 1;key 0;", 1, 15);
        faulty('y', "1 what can't stand there", "cost -1;", 1, 5);
        faulty('y', "1 what can't stand there", "cost +1;", 1, 5);
        faulty('y', "1 what can't stand there", "lane 1;lane 2", 1, 13);
        faulty('y', "1 what can't stand there", "park 0 0;", 1, 0);
        faulty('y', "the first from the left", "lane 9;x", 2, 5);
        faulty('y', "the first from the left", "x;lane 9;", 1, 0);
        faulty('y', "the first from the left", "car 3 100 10;", 2, 4);
        faulty('y', "the first from the left", "car 1 100 10", 2, 6);
        faulty('y', "the first from the left: a number ahead of what is missing behind it", "lane 9", 2, 5);
    }

    // ---- Promise 4

    private static int by(BlockedCars x, int[] f) {
        return x.would(f[0], f[1], f[2], f[3], f[4], f[5], f[6], f[7]);
    }

    private static void law(String sentence, String text, int seconds) {
        Check.due(4, sentence + ": " + text, by(sound('l', sentence, text, 1), FACTS), seconds);
    }

    private static void lawNumbers() {
        law("N 0 to 999", "0+7", 7);
        law("N 0 to 999", "999-990", 9);
        law("N 0 to 999", "999/999", 1);
        law("N 0 to 999", "999%500", 99);
        law("N 0 to 999", "999%950", 49);
        faulty('l', "N 0 to 999", "1000", 2, 0);
        faulty('l', "N 0 to 999", "999+ 1000", 2, 5);
        law("1 at least", "0", 1);
        law("1 at least", "1", 1);
        law("1 at least", "2", 2);
        law("1 at least", "0-1", 1);
        law("1 at least", "0-999*999*999", 1);
        law("99 at most", "98", 98);
        law("99 at most", "99", 99);
        law("99 at most", "100", 99);
        law("99 at most", "999*999*999", 99);
        BlockedCars x = new BlockedCars();
        Check.due(4, "without: length * 10 + tries * 5, the least", x.would(1, 0, 0, 0, 0, 0, 0, 0), 10);
        Check.due(4, "without: length * 10 + tries * 5, the most", x.would(2, 9, 99, 5, 2, 4, 999, 1), 65);
        Check.due(4, "without: the others don't count", x.would(1, 1, 99, 5, 2, 4, 999, 1), 15);
    }

    private static void lawValues() {
        law("/ cuts", "7/2", 3);
        law("/ cuts, below 0 too", "10+(0-7)/2", 7);
        law("/ cuts, by less than 0", "10+7/(0-2)", 7);
        law("/ cuts, both below 0", "(0-7)/(0-2)", 3);
        law("% leaves", "7%3", 1);
        law("% with the sign of what is divided", "10+(0-7)%3", 9);
        law("% with the sign of what is divided, not of the other", "10+7%(0-3)", 11);
        law("by 0 both are 0", "7+5/0", 7);
        law("by 0 both are 0", "7+5%0", 7);
        law("by 0 both are 0", "7+0/0", 7);
        law("by 0 both are 0", "7+0%0", 7);
        law("by 0 both are 0", "7+(0-5)/0", 7);
        law("by 0 both are 0", "7+(0-5)%(3-3)", 7);
        law("by what is 0 as it happens", "7+hour/(moved-20)", 7);
        law("T { + or - T }: from the left", "20-5-3", 12);
        law("T { + or - T }: from the left", "20-5+3", 18);
        law("U { * or / or % U }: from the left", "40/4/2", 5);
        law("U { * or / or % U }: from the left", "40/4*2", 20);
        law("U { * or / or % U }: from the left", "47%10*3", 21);
        law("U { * or / or % U }: from the left", "3*47%10", 1);
        law("T ahead of E", "2+3*4-6/3", 12);
        law("least of alike ones", "least[7,7]", 7);
        law("least", "least[8,7]", 7);
        law("least", "least[7,8]", 7);
        law("least, below 0", "10+least[0-3,2]", 7);
        law("most of alike ones", "most[7,7]", 7);
        law("most", "most[8,7]", 8);
        law("most", "most[7,8]", 8);
        law("most, below 0", "10+most[0-3,0-5]", 7);
        law("most and least of whole Es", "most[1+2*3,least[hour,moved*2]-1]", 39);
    }

    private static void lawWraps() {
        law("32 bits that wrap: the most there is", "512*512*512*16-1", 99);
        law("32 bits that wrap: one more", "512*512*512*16-1+1", 1);
        law("32 bits that wrap: the least less 1", "0-512*512*512*16-1", 99);
        law("32 bits that wrap: all of them", "512*512*512*32+7", 7);
        law("32 bits that wrap by *", "999*999*999*5%97", 999 * 999 * 999 * 5 % 97);
        law("32 bits that wrap by *", "100+999*999*999*3%97", Math.min(99, 100 + 999 * 999 * 999 * 3 % 97));
        law("the least by -1 is itself", "(0-512*512*512*16)/(0-1)", 1);
        law("the least by -1 leaves 0", "7+(0-512*512*512*16)%(0-1)", 7);
        law("what has wrapped can be divided", "(512*512*512*16-1)/512/512/512", 15);
    }

    private static void lawWords() {
        String[] words = {"length", "tries", "hour", "car", "lane", "cars", "moved", "own"};
        for (int i = 0; i < words.length; i++) {
            law("the word", words[i], FACTS[i]);
            law("the word, without blanks", "0+" + words[i] + "*1", FACTS[i]);
            faulty('l', "WORDS: as many letters as stand there", words[i] + "x", 1, 0);
            faulty('l', "1 what can't stand there", words[i].substring(0, 1), 1, 0);
            faulty('l', "small letters", words[i].toUpperCase(), 1, 0);
            faulty('l', "at the end nothing more", words[i] + "1", 1, words[i].length());
            faulty('l', "at the end nothing more", words[i] + " " + words[i], 1, words[i].length() + 1);
        }
        for (String word : new String[] {"least", "most"}) {
            int n = word.length();
            faulty('l', "WORDS: as many letters as stand there", word + "s[1,2]", 1, 0);
            faulty('l', "WORDS: as many letters as stand there", word.substring(1) + "[1,2]", 1, 0);
            faulty('l', "1 what can't stand there", word + "(1,2)", 1, n);
            faulty('l', "1 what can't stand there", word + "[]", 1, n + 1);
            faulty('l', "1 what can't stand there", word + "[1]", 1, n + 2);
            faulty('l', "1 what can't stand there", word + "[,1]", 1, n + 1);
            faulty('l', "1 what can't stand there", word + "[1,]", 1, n + 3);
            faulty('l', "1 what can't stand there", word + "[1,2,3]", 1, n + 4);
            faulty('l', "1 what can't stand there", word + "[1,2)", 1, n + 4);
            faulty('l', "1 what can't stand there", word + "[1 2]", 1, n + 3);
            faulty('l', "ends too early", word, 1, n);
            faulty('l', "ends too early", word + "[", 1, n + 1);
            faulty('l', "ends too early", word + "[1,", 1, n + 3);
            faulty('l', "ends too early", word + "[1,2", 1, n + 4);
        }
        faulty('l', "1 what can't stand there", "rest", 1, 0);
        faulty('l', "1 what can't stand there", "park", 1, 0);
    }

    private static void lawFaults() {
        faulty('l', "E, not nothing", "", 1, 0);
        faulty('l', "E, not nothing", "    ", 1, 4);
        faulty('l', "at the end nothing more", "1 1", 1, 2);
        faulty('l', "at the end nothing more", "1)", 1, 1);
        faulty('l', "at the end nothing more", "1]", 1, 1);
        faulty('l', "at the end nothing more", "1;", 1, 1);
        faulty('l', "at the end nothing more", "1,1", 1, 1);
        faulty('l', "at the end nothing more", "(1)1", 1, 3);
        faulty('l', "at the end nothing more", "1(1)", 1, 1);
        faulty('l', "at the end nothing more", "least[1,2]3", 1, 10);
        faulty('l', "1 what can't stand there", "+1", 1, 0);
        faulty('l', "1 what can't stand there", "-1", 1, 0);
        faulty('l', "1 what can't stand there", "1--1", 1, 2);
        faulty('l', "1 what can't stand there", "1*+1", 1, 2);
        faulty('l', "1 what can't stand there", "*1", 1, 0);
        faulty('l', "1 what can't stand there", "()", 1, 1);
        faulty('l', "1 what can't stand there", ")", 1, 0);
        faulty('l', "1 what can't stand there", "(1]", 1, 2);
        faulty('l', "1 what can't stand there", "[1]", 1, 0);
        faulty('l', "1 what can't stand there", "1^2", 1, 1);
        for (String sign : new String[] {"+", "-", "*", "/", "%"}) {
            faulty('l', "ends too early", "1" + sign, 1, 2);
            faulty('l', "ends too early, blanks", "1 " + sign + "  ", 1, 5);
        }
        faulty('l', "ends too early", "(", 1, 1);
        faulty('l', "ends too early", "(1", 1, 2);
        faulty('l', "ends too early", "(1  ", 1, 4);
        faulty('l', "the first from the left", "1000 1000 x", 2, 0);
        faulty('l', "the first from the left", "x+1000", 1, 0);
        faulty('l', "the first from the left", "(1000", 2, 1);
    }

    private static void lawOpen() {
        law("six ( are open", "((((((7))))))", 7);
        law("six least are open", "least[least[least[least[least[least[7,8],9],10],11],12],13]", 7);
        law("six most are open", "most[1,most[2,most[3,most[4,most[5,most[6,7]]]]]]", 7);
        law("six of all kinds are open", "(least[(most[(least[7,8]),1]),9])", 7);
        law("not at one time", "(1)+(1)+(1)+(1)+(1)+(1)+(1)", 7);
        law("not at one time", "((((((3))))))+((((((4))))))", 7);
        law("not at one time, in both halves", "least[(((((7))))),(((((8)))))]", 7);
        faulty('l', "a 7th of (", "(((((((7)))))))", 3, 6);
        faulty('l', "a 7th of (, at its first byte", "((((((  (7", 3, 8);
        faulty('l', "a 7th of (, behind others that were closed", "(((((( 1) + 2 ) + (((", 3, 20);
        faulty('l', "a 7th of least", "((((((least[1,2]))))))", 3, 6);
        faulty('l', "a 7th of least, at its word", "(((((( least", 3, 7);
        faulty('l', "a 7th of most", "((((((most[1,2]))))))", 3, 6);
        faulty('l', "a 7th of (, in the second half", "least[1,((((((7))))))]", 3, 13);
        faulty('l', "a 7th of (, in the first half", "most[((((((7)))))),1]", 3, 10);
        faulty('l', "a 7th in least, most", "least[least[least[least[least[least[least[1,2],3],4],5],6],7],8]", 3, 36);
        faulty('l', "of one the least: 1 ahead of 3", "((((((leas", 1, 6);
        faulty('l', "of one the least: 1 ahead of 3", "((((((leasts[", 1, 6);
        faulty('l', "the text ends where a 7th would be", "((((((", 1, 6);
        faulty('l', "a number where a 7th would be", "((((((1000", 2, 6);
        faulty('l', "the first from the left: a 7th ahead of what comes behind", "(((((((1000", 3, 6);
    }

    // ---- Promise 5

    private static void workNumbers() {
        Check.due(5, "the last CAR, the last LANE", sound('w', "park C L", "park 5 2;", 1).car(5, 3), 2);
        faulty('w', "park: no such CAR", "park 6 2;", 2, 5);
        faulty('w', "park: no such LANE", "park 5 3;", 2, 7);
        Check.due(5, "move to the last LANE", sound('w', "move A L M", "move 4 1 2;", 1).car(4, 3), 2);
        Check.due(5, "move from the last LANE", sound('w', "move A L M", "park 5 2;move 5 2 0;", 2).car(5, 3), 0);
        faulty('w', "move: no such CAR", "move 6 1 2;", 2, 5);
        faulty('w', "move: no such LANE", "move 4 3 2;", 2, 7);
        faulty('w', "move: no such LANE", "move 4 1 3;", 2, 9);
        Check.due(5, "leave LANE 0", sound('w', "leave L", "leave 0;", 1).told(2), 25);
        Check.due(5, "leave the last LANE", sound('w', "leave L", "leave 2;", 0).told(7), 1);
        faulty('w', "leave: no such LANE", "leave 3;", 2, 6);
        Check.due(5, "N 0: not once", sound('w', "again 0", "again 0 [leave 0;];", 0).told(2), 27);
        Check.due(5, "N 1: once", sound('w', "again 1", "again 1 [leave 0;];", 1).told(7), 0);
        Check.due(5, "N 30: thirty times", sound('w', "again 30", "again 30 [leave 0;];", 2).told(7), 28);
        faulty('w', "N 0 to 30", "again 31 [leave 0;];", 2, 6);
        faulty('w', "none is done", "leave 0;leave 1;again 31 [leave 0;];", 2, 22);
        sound('w', "{ STEP ; }: none", "", 0);
        sound('w', "{ STEP ; }: blanks", "   ", 0);
        sound('w', "{ STEP ; } in an again: none", "again 7 [ ];", 0);
        BlockedCars x = new BlockedCars();
        Check.due(5, "without CARS no number is one", Check.work(x, "park 0 0;"), -8);
        Check.due(7, "at C", x.fault(), 5);
        Check.due(5, "without LANES no number is one", Check.work(x, "leave 0;"), -8);
        Check.due(7, "at L", x.fault(), 6);
        Check.due(5, "a swap needs none", Check.work(x, "swap;"), 0);
        Check.due(9, "it is REFUSED", x.told(7), 1);
        BlockedCars noLanes = Check.with("car 1 1 1;");
        Check.due(5, "CARS without LANES", Check.work(noLanes, "park 0 0;"), -8);
        Check.due(7, "at L", noLanes.fault(), 7);
        BlockedCars noCars = Check.with("lane 1;");
        Check.due(5, "LANES without CARS", Check.work(noCars, "leave 0;"), 0);
        Check.due(5, "LANES without CARS", Check.work(noCars, "move 0 0 0;"), -8);
        Check.due(7, "at A", noCars.fault(), 5);
    }

    private static void workFaults() {
        String[] words = {"park", "move", "leave", "swap", "again"};
        for (String word : words) {
            faulty('w', "WORDS: as many letters as stand there", word + "s 0 0;", 1, 0);
            faulty('w', "1 what can't stand there", word.substring(0, word.length() - 1) + " 0 0;", 1, 0);
            if (!word.equals("swap")) {
                faulty('w', "1 what can't stand there", word + " ;", 1, word.length() + 1);
            }
        }
        faulty('w', "1 what can't stand there", "swap 0;", 1, 5);
        faulty('w', "1 what can't stand there", "park 0;", 1, 6);
        faulty('w', "1 what can't stand there", "park 0 0 0;", 1, 9);
        faulty('w', "1 what can't stand there", "move 0 0;", 1, 8);
        faulty('w', "1 what can't stand there", "leave 0 0;", 1, 8);
        faulty('w', "1 what can't stand there", ";", 1, 0);
        faulty('w', "1 what can't stand there", "]", 1, 0);
        faulty('w', "1 what can't stand there", "swap;]", 1, 5);
        faulty('w', "1 what can't stand there", "0;", 1, 0);
        faulty('w', "1 what can't stand there", "lane 1;", 1, 0);
        faulty('w', "again without a number", "again [swap;];", 1, 6);
        faulty('w', "again without [", "again 2 swap;", 1, 8);
        faulty('w', "again with (", "again 2 (swap;);", 1, 8);
        faulty('w', "no ; ahead of ]", "again 2 [swap];", 1, 13);
        faulty('w', "no ; behind ]", "again 2 [swap;]swap;", 1, 15);
        faulty('w', "a ; too many", "again 2 [swap;;];", 1, 14);
        faulty('w', "ends too early", "again", 1, 5);
        faulty('w', "ends too early", "again 2", 1, 7);
        faulty('w', "ends too early", "again 2 [", 1, 9);
        faulty('w', "ends too early", "again 2 [swap", 1, 13);
        faulty('w', "ends too early", "again 2 [swap; ", 1, 15);
        faulty('w', "ends too early", "again 2 [swap;]", 1, 15);
        faulty('w', "none is", "leave 0;park 5 2;swap;swap", 1, 26);
        faulty('w', "the first from the left", "park 6 3;x", 2, 5);
        faulty('w', "the first from the left", "x park 6 3;", 1, 0);
        faulty('w', "the first from the left", "again 31 (", 2, 6);
    }

    private static void workOpen() {
        Check.due(5, "six are open", sound('w', "six", "again 1[".repeat(6) + "leave 0;" + "];".repeat(6), 1).told(7), 0);
        faulty('w', "a 7th of again", "again 1[".repeat(7) + "];".repeat(7), 3, 48);
        faulty('w', "a 7th of again, at its word", "again 1[".repeat(6) + "  again", 3, 50);
        faulty('w', "a 7th of again, at its word, behind others", "again 1[".repeat(6) + "swap;swap; again 99", 3, 59);
        sound('w', "not at one time", "again 1[];".repeat(7), 0);
        sound('w', "not at one time", "again 1[".repeat(5) + "again 1[];again 1[];again 1[];" + "];".repeat(5), 0);
        faulty('w', "of one the least: 1 ahead of 3", "again 1[".repeat(6) + "agains 1[", 1, 48);
        faulty('w', "the text ends where a 7th would be", "again 1[".repeat(6), 1, 48);
        faulty('w', "a ; where a 7th would be", "again 1[".repeat(6) + ";", 1, 48);
    }

    // ---- Promise 6

    private static void spotsNumbers() {
        Check.due(6, "none", sound('s', "{ L P B ; }: none", "", 0).told(6), 0);
        Check.due(6, "none, blanks", sound('s', "{ L P B ; }: none", "  ", 0).told(6), 0);
        sound('s', "the last place of each LANE", "0 3 1;1 2 1;2 1 1;", 3);
        faulty('s', "no such LANE", "3 0 1;", 2, 0);
        faulty('s', "no such place of LANE 0", "0 4 1;", 2, 2);
        faulty('s', "no such place of LANE 1", "1 3 1;", 2, 2);
        faulty('s', "no such place of LANE 2", "2 2 1;", 2, 2);
        faulty('s', "B is 1 or 0", "0 0 2;", 2, 4);
        Check.due(22, "B 1: there is oil", sound('s', "B 1", "0 0 1;", 1).leaks(1), 1);
        Check.due(22, "B 0: there is none", sound('s', "B 0", "0 0 0;", 1).leaks(1), 0);
        faulty('s', "no place twice, at its P", "0 0 1;0 0 1;", 2, 8);
        faulty('s', "no place twice, the other B", "0 0 1;0 0 0;", 2, 8);
        faulty('s', "no place twice, not behind one another", "2 1 1;0 0 0;1 2 0;  2   01 0;", 2, 24);
        faulty('s', "no place twice, ahead of a wrong B", "0 3 1;0 3 2;", 2, 8);
        faulty('s', "no place twice, ahead of an end", "0 3 1;0 3", 2, 8);
        sound('s', "the same place of another LANE", "0 1 1;1 1 1;2 1 1;", 3);
        sound('s', "a new text may tell a place of the old one", "0 0 1;1 0 1;", 2);
        Check.due(6, "the old ones are gone", sound('s', "new lines", "2 0 1;", 1).told(6), 1);
        BlockedCars x = new BlockedCars();
        Check.due(6, "without LANES no number is one", Check.spots(x, "0 0 1;"), -8);
        Check.due(7, "at L", x.fault(), 0);
        Check.due(6, "no lines are fine", x.spots(0), 0);
    }

    private static void spotsFaults() {
        faulty('s', "1 what can't stand there", ";", 1, 0);
        faulty('s', "1 what can't stand there", "0;", 1, 1);
        faulty('s', "1 what can't stand there", "0 0;", 1, 3);
        faulty('s', "1 what can't stand there", "0 0 1 1;", 1, 6);
        faulty('s', "1 what can't stand there", "0 0 1;;", 1, 6);
        faulty('s', "1 what can't stand there", "oil 0 0 1;", 1, 0);
        faulty('s', "1 what can't stand there", "0,0,1;", 1, 1);
        faulty('s', "1 what can't stand there", "-1 0 1;", 1, 0);
        faulty('s', "ends too early", "0", 1, 1);
        faulty('s', "ends too early", "0 0", 1, 3);
        faulty('s', "ends too early", "0 0 1", 1, 5);
        faulty('s', "ends too early", "0 0 1;0 1 ", 1, 10);
        faulty('s', "the first from the left", "3 9 9", 2, 0);
        faulty('s', "the first from the left", "0 9 9", 2, 2);
    }

    // ---- numbers, words, blanks

    private static void numbers() {
        String zeros = "0".repeat(40);
        Check.due(3, "digits, as many as stand there", sound('y', "zeros ahead", "lane " + zeros + "4;", 0).lane(0, 0), 4);
        law("digits, as many as stand there", zeros + "98", 98);
        sound('w', "digits, as many as stand there", "park 5 " + zeros + "2;", 1);
        sound('s', "digits, as many as stand there", "00 003 000001;", 1);
        faulty('s', "two digits are one number", "00 1;", 1, 4);
        for (String big : new String[] {"10", "4294967297", "8589934593", "18446744073709551617", "1" + zeros, "9".repeat(45)}) {
            faulty('y', "a number that is none such", "lane " + big + ";", 2, 5);
            faulty('y', "a number that is none such", "car " + big + " 1 1;", 2, 4);
            faulty('w', "a number that is none such", "park " + big + " 0;", 2, 5);
            faulty('s', "a number that is none such", big + " 0 1;", 2, 0);
        }
        for (String big : new String[] {"1000", "4294967296", "4294967297", "18446744073709551616", "1" + zeros}) {
            faulty('l', "a number that is none such", "1+" + big, 2, 2);
            faulty('w', "a number that is none such", "again " + big + " [];", 2, 6);
        }
        BlockedCars x = sound('y', "every digit", "car 1 10 2;car 1 34 5;car 2 67 8;car 1 98 0;", 4);
        int[] hours = {10, 34, 67, 98};
        int[] tries = {2, 5, 8, 0};
        for (int car = 0; car < 4; car++) {
            Check.due(11, "every digit: T", x.car(car, 1), hours[car]);
            Check.due(11, "every digit: S", x.car(car, 2), tries[car]);
        }
    }

    private static void words() {
        faulty('y', "small letters, as many as stand there", "lanea 1;", 1, 0);
        faulty('y', "small letters, as many as stand there", "lanez 1;", 1, 0);
        faulty('y', "small letters, as many as stand there", "alane 1;", 1, 0);
        faulty('y', "small letters, as many as stand there", "lan 1;", 1, 0);
        faulty('y', "small letters, as many as stand there", "la ne 1;", 1, 0);
        faulty('y', "small letters, as many as stand there", "lanelane 1;", 1, 0);
        faulty('y', "small letters", "Lane 1;", 1, 0);
        faulty('y', "small letters", "lAne 1;", 1, 0);
        faulty('y', "small letters: what is none ends the word", "laneA 1;", 1, 4);
        otherLetters('y', "", " 1 1 1;", "lane", "car", "key", "cost");
        otherLetters('l', "7 + ", "", "length", "tries", "hour", "car", "lane", "cars", "moved", "own");
        otherLetters('l', "7 + ", "[1,2]", "least", "most");
        otherLetters('w', "swap;", " 0 0 0;", "park", "move", "leave", "swap", "again");
        for (String word : new String[] {"lane", "car", "key", "cost"}) {
            faulty('y', "as many letters as stand there", word + "e 1;", 1, 0);
            faulty('y', "as many letters as stand there", word.substring(0, word.length() - 1) + " 1;", 1, 0);
            faulty('y', "as many letters as stand there", word.substring(1) + " 1;", 1, 0);
        }
    }

    /** Each letter of a word, one after the other, is another one. */
    private static void otherLetters(char kind, String ahead, String behind, String... words) {
        for (String word : words) {
            for (int i = 0; i < word.length(); i++) {
                String other = word.substring(0, i) + "q" + word.substring(i + 1);
                faulty(kind, "1 what can't stand there", ahead + other + behind, 1, ahead.length());
            }
        }
    }

    private static void blanks() {
        Check.due(3, "a blank need not be", sound('y', "no blanks", "lane3;car1 2 3;key0 0;cost1;", 1).car(0, 2), 3);
        Check.due(3, "blanks ahead of all these, and at the end", sound('y', "many", "   lane   3   ;   car   1   2   3   ;   ", 1).lane(0, 0), 3);
        law("blanks ahead of all these, and at the end", "   least   [   (   1   +   2   )   *   3   ,   8   ]   %   5   ", 3);
        law("a blank need not be", "least[(1+2)*3,8]%5-length/tries", 3);
        sound('w', "blanks ahead of all these, and at the end", "  again  2  [  move  0  0  2  ;  leave  0  ;  ]  ;  swap  ;  ", 3);
        sound('w', "a blank need not be", "again2[move0 0 2;leave0;];swap;", 3);
        sound('s', "blanks ahead of all these, and at the end", "   0   1   1   ;   1   1   0   ;   ", 2);
        faulty('y', "at its first byte, not at the blanks ahead", "    lanes 1;", 1, 4);
        faulty('y', "at its first byte, not at the blanks ahead", "lane     5;", 2, 9);
        faulty('y', "a blank parts numbers", "lane 1 2;", 1, 7);
        faulty('l', "a blank parts words", "le ngth", 1, 0);
        faulty('l', "a blank parts numbers", "1 0", 1, 2);
        faulty('s', "at its first byte, not at the blanks ahead", "0    5 1;", 2, 5);
    }

    private static void strangeBytes() {
        int[] bytes = {0, 9, 10, 13, 31, 33, 34, 47, 58, 59 + 128, 96, 123, 127, 128, 160, 'l' + 128, '1' + 128, 255};
        for (int b : bytes) {
            char c = (char) b;
            faulty('y', "1 what can't stand there: byte " + b + " ahead of a word", c + "lane 1;", 1, 0);
            faulty('y', "1 what can't stand there: byte " + b + " behind a word", "lane" + c + " 1;", 1, 4);
            faulty('y', "1 what can't stand there: byte " + b + " behind a number", "lane 1" + c + ";", 1, 6);
            faulty('y', "1 what can't stand there: byte " + b + " at the end", "lane 1;" + c, 1, 7);
            if (b != '/') {
                faulty('l', "1 what can't stand there: byte " + b, "hour" + c + "1", 1, 4);
            }
            faulty('l', "1 what can't stand there: byte " + b, "1+" + c, 1, 2);
            faulty('w', "1 what can't stand there: byte " + b, "swap" + c + ";", 1, 4);
            faulty('w', "1 what can't stand there: byte " + b, "again 1[" + c + "];", 1, 8);
            faulty('s', "1 what can't stand there: byte " + b, "0" + c + "0 1;", 1, 1);
            faulty('s', "1 what can't stand there: byte " + b, "0 0 1;" + c, 1, 6);
        }
        faulty('l', "a / in vain", "hour//1", 1, 5);
    }

    /** Each text, cut anywhere: it is sound only where it may end; else 1 at the length, or at the word that is cut. */
    private static void textsThatEnd() {
        String yard = "lane 4;car 1 20 3; key 0 0;cost 7; ";
        for (int n = 0; n <= yard.length(); n++) {
            int from = n > 0 && n < 4 ? 0 : n > 7 && n < 10 ? 7 : n > 19 && n < 22 ? 19 : n > 27 && n < 31 ? 27 : n;
            boolean isSound = n == 0 || n == 7 || n == 18 || n == 19 || n == 27 || n >= 34;
            cut('y', yard, n, isSound ? -1 : from);
        }
        String law = "hour + (2 * 3)";
        for (int n = 0; n <= law.length(); n++) {
            int from = n > 0 && n < 4 ? 0 : n;
            cut('l', law, n, n == 4 || n == 5 || n == 14 ? -1 : from);
        }
        String work = "again 2 [leave 0;]; swap;";
        for (int n = 0; n <= work.length(); n++) {
            int from = n > 0 && n < 5 ? 0 : n > 9 && n < 14 ? 9 : n > 20 && n < 24 ? 20 : n;
            cut('w', work, n, n == 0 || n == 19 || n == 20 || n == 25 ? -1 : from);
        }
        String spots = "0 1 1; 1 1 0;";
        for (int n = 0; n <= spots.length(); n++) {
            cut('s', spots, n, n == 0 || n == 6 || n == 7 || n == 13 ? -1 : n);
        }
    }

    private static void cut(char kind, String text, int n, int place) {
        BlockedCars x = ready();
        Check.put(x, text + "?");
        String what = "at the length, if the text ends too early: '" + text.substring(0, n) + "'";
        int answer = Check.read(x, kind, n);
        Check.due(promiseOf(kind), what, answer < 0 ? answer : 0, place < 0 ? 0 : -9);
        Check.due(7, what, x.fault(), place);
    }

    // ---- Promise 7

    private static void places() {
        BlockedCars x = new BlockedCars();
        Check.due(7, "NONE without: ahead of any text", x.fault(), -1);
        Check.due(7, "the least place", Check.yard(x, "?") * 1000 + x.fault(), -9000);
        Check.law(x, "1+?");
        Check.due(7, "of the latest text", x.fault(), 2);
        Check.illegal(4, "n is not 0 to the TAPE's bytes", () -> x.law(1));
        Check.due(7, "a call that was refused read no text", x.fault(), 2);
        x.undo();
        x.image();
        x.restore();
        x.feed(0, 0, 0, 0, 0);
        Check.due(7, "what is no text leaves it", x.fault(), 2);
        Check.due(5, "a WORK", x.work(0), 0);
        Check.due(7, "NONE without: the latest had none", x.fault(), -1);
        Check.yard(x, " ".repeat(599) + "?");
        Check.due(7, "the greatest place in a text", x.fault(), 599);
        Check.yard(x, "lane" + " ".repeat(596));
        Check.due(7, "the greatest length", x.fault(), 600);
        Check.spots(x, "");
        Check.due(7, "NONE without: no SPOTS", x.fault(), -1);
    }
}
