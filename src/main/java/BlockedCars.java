import java.util.Arrays;
import java.util.NoSuchElementException;

/** A yard in which cars block one another, by the numbered promises of DOC.md. */
public final class BlockedCars {
    public static final int NONE = -1;

    private static final int NOT_NEEDED = -2;
    private static final int OUT = -2;
    private static final int TOO_MANY_WORKS = -20;
    private static final int FAULT_BASE = 10;

    private static final int MOST_LANES = 3;
    private static final int MOST_PLACES = 4;
    private static final int MOST_CARS = 6;
    private static final int MOST_CLAUSES = 60;
    private static final int MOST_OPEN = 6;
    private static final int MOST_STEPS = 200;
    private static final int MOST_WORKS = 16;
    private static final int MOST_IMAGES = 3;
    private static final int MOST_SPARE = 4;
    private static final int TAPE_BYTES = 600;
    private static final int FEED_BYTES = 20;
    private static final int LAW_BYTES = 150;
    private static final int WORK_BYTES = 150;
    private static final int SPOTS_BYTES = 60;

    private static final int CANNOT_STAND = 1;
    private static final int NO_SUCH_NUMBER = 2;
    private static final int TOO_MANY = 3;

    private final Reader reader = new Reader();
    private Yard yard = new Yard();
    private Yard yardDraft = new Yard();
    private Law law = new Law();
    private Law lawDraft = new Law();
    private Spots spots = new Spots();
    private Spots spotsDraft = new Spots();
    private final Work work = new Work();
    private final Past past = new Past();
    private final Past[] images = new Past[MOST_IMAGES];
    private final Search search = new Search();
    private final Days days = new Days();
    private int imageCount;
    private int refusedSteps;
    private int refusedNoSuch;
    private int refusedIllegal;

    public BlockedCars() {
        for (int i = 0; i < images.length; i++) {
            images[i] = new Past();
        }
    }

    public int feed(int a, int b, int c, int d, int e) {
        if (reader.held + FEED_BYTES > TAPE_BYTES) {
            return NONE;
        }
        reader.take(a);
        reader.take(b);
        reader.take(c);
        reader.take(d);
        reader.take(e);
        return reader.held;
    }

    public int yard(int n) throws IllegalArgumentException {
        need(isWithin(n, 0, reader.held));
        reader.open(n);
        yardDraft.read(reader);
        if (!reader.isSound()) {
            return reader.fault - FAULT_BASE;
        }
        Yard told = yardDraft;
        yardDraft = yard;
        yard = told;
        law.clear();
        spots.clear();
        past.works = 0;
        imageCount = 0;
        refusedSteps = 0;
        return yard.cars;
    }

    public int law(int n) throws IllegalArgumentException {
        need(isWithin(n, 0, Math.min(LAW_BYTES, reader.held)));
        reader.open(n);
        lawDraft.read(reader);
        if (!reader.isSound()) {
            return reader.fault - FAULT_BASE;
        }
        Law told = lawDraft;
        lawDraft = law;
        law = told;
        return 1;
    }

    public int work(int n) throws IllegalArgumentException {
        need(isWithin(n, 0, Math.min(WORK_BYTES, reader.held)));
        if (past.works >= MOST_WORKS) {
            reader.open(0);
            return TOO_MANY_WORKS;
        }
        reader.open(n);
        work.read(reader, yard);
        if (!reader.isSound()) {
            return reader.fault - FAULT_BASE;
        }
        past.begin();
        work.run(yard, law, past.latest());
        refusedSteps = work.refused;
        return work.done;
    }

    public int spots(int n) throws IllegalArgumentException {
        need(isWithin(n, 0, Math.min(SPOTS_BYTES, reader.held)));
        reader.open(n);
        spotsDraft.read(reader, yard);
        if (!reader.isSound()) {
            return reader.fault - FAULT_BASE;
        }
        Spots told = spotsDraft;
        spotsDraft = spots;
        spots = told;
        return Integer.bitCount(spots.lines);
    }

    public int fault() {
        return reader.faultAt;
    }

    public int undo() {
        if (past.works == 0) {
            return NONE;
        }
        past.works--;
        refusedSteps = 0;
        return past.works;
    }

    public int told(int what) throws IllegalArgumentException {
        need(isWithin(what, 0, 9));
        Position now = past.latest();
        switch (what) {
            case 0: return yard.lanes;
            case 1: return yard.cars;
            case 2: return Stand.carsIn(now.stand);
            case 3: return now.spent;
            case 4: return now.allMoves();
            case 5: return yard.pairsOf(now.stand);
            case 6: return Integer.bitCount(spots.lines);
            case 7: return refusedSteps;
            case 8: return roomOfAll(now.stand);
            default: return now.allMoves() * yard.cost;
        }
    }

    public int lane(int lane, int what) throws NoSuchElementException, IllegalArgumentException {
        needLane(lane);
        need(isWithin(what, 0, 4));
        long stand = past.latest().stand;
        switch (what) {
            case 0: return yard.placesOf(lane);
            case 1: return yard.roomOf(stand, lane);
            case 2: return Stand.frontOf(stand, lane);
            case 3: return Stand.carsIn(Stand.rowOf(stand, lane));
            default: return Stand.carAtWall(stand, lane);
        }
    }

    public int car(int car, int what) throws NoSuchElementException, IllegalArgumentException {
        needCar(car);
        need(isWithin(what, 0, 6));
        Position now = past.latest();
        switch (what) {
            case 0: return yard.lengthOf(car);
            case 1: return yard.hourOf(car);
            case 2: return yard.triesOf(car);
            case 3: return Stand.laneOf(now.stand, car);
            case 4: return yard.firstPlaceOf(now.stand, car);
            case 5: return now.movesOf(car);
            default: return yard.keysOf(car);
        }
    }

    public int on(int lane, int place) throws NoSuchElementException {
        needLane(lane);
        return yard.carOn(past.latest().stand, lane, place);
    }

    public int seconds(int car, int own) throws NoSuchElementException, IllegalArgumentException {
        needCar(car);
        need(isWithin(own, 0, 1));
        return law.secondsNow(yard, past.latest(), car, own);
    }

    public int would(int length, int tries, int hour, int car, int lane, int cars, int moved, int own)
            throws IllegalArgumentException {
        need(isWithin(length, 1, 2) && isWithin(tries, 0, 9) && isWithin(hour, 0, 99));
        need(isWithin(car, 0, MOST_CARS - 1) && isWithin(lane, 0, MOST_LANES - 1));
        need(isWithin(cars, 0, MOST_PLACES) && isWithin(moved, 0, 999) && isWithin(own, 0, 1));
        law.tellCar(length, tries, hour, car);
        law.tellMove(lane, cars, moved, own);
        return law.secondsTold();
    }

    public int ahead(int car) throws NoSuchElementException {
        needCar(car);
        return Stand.aheadOf(past.latest().stand, car);
    }

    public int frees(int car, int what) throws NoSuchElementException, IllegalArgumentException {
        needCar(car);
        need(isWithin(what, 0, 1));
        long stand = past.latest().stand;
        if (Stand.laneOf(stand, car) == NONE) {
            return NONE;
        }
        int moves = search.seek(yard, 0, stand, car);
        return what == 0 ? moves : search.first;
    }

    public int morning(int what) throws IllegalArgumentException {
        need(isWithin(what, 0, 1));
        int moves = search.seek(yard, 0, past.latest().stand, NONE);
        if (what == 0) {
            return moves;
        }
        return moves == 0 ? NOT_NEEDED : search.first;
    }

    public int corner(int car) throws NoSuchElementException {
        needCar(car);
        long stand = past.latest().stand;
        if (Stand.laneOf(stand, car) == NONE) {
            return OUT;
        }
        int with = search.seek(yard, 0, stand, NONE);
        if (with == NONE) {
            return NONE;
        }
        return with - search.seek(yard, 0, Stand.takeAway(stand, car), NONE);
    }

    public boolean goes(int car) throws NoSuchElementException {
        needCar(car);
        return yard.getsOutAlone(past.latest().stand, car);
    }

    public int evening(int cars, int what) throws IllegalArgumentException {
        need(areCars(cars) && isWithin(what, 0, 1));
        int best = yard.bestEvening(cars);
        if (best == NONE) {
            return NONE;
        }
        return what == 0 ? best >> Yard.EVENING_BITS : best & ((1 << Yard.EVENING_BITS) - 1);
    }

    public int sure(int car, int q, int part) throws NoSuchElementException, IllegalArgumentException {
        needCar(car);
        need(isWithin(q, 0, 16) && isWithin(part, 0, 1));
        int above = 1;
        int below = 1;
        int many = Integer.bitCount(Stand.aheadOf(past.latest().stand, car));
        for (int i = 0; i < many; i++) {
            above *= q;
            below *= 16;
        }
        // Below there are only twos, so no other number divides both.
        for (int twos = 4 * many; twos > 0 && above % 2 == 0; twos--) {
            above /= 2;
            below /= 2;
        }
        return part == 0 ? above : below;
    }

    public int leaks(int what) throws IllegalArgumentException {
        need(isWithin(what, 0, 2));
        spots.lookAt(yard, past.latest().stand);
        switch (what) {
            case 0: return spots.howManySets();
            case 1: return spots.firstSet();
            default: return spots.carsInAllSets();
        }
    }

    public int look(int what) throws IllegalArgumentException {
        need(isWithin(what, 0, 1));
        spots.lookAt(yard, past.latest().stand);
        int place = spots.bestPlace();
        if (place == NONE) {
            return NONE;
        }
        return what == 0 ? place / MOST_PLACES * 10 + place % MOST_PLACES : spots.worstAt(place);
    }

    public int fronts(int k, int v, int w, int what) throws IllegalArgumentException {
        need(isWithin(k, 0, 9) && isWithin(v, 0, 40) && isWithin(w, 0, 40) && isWithin(what, 0, 2));
        int many = 0;
        int first = NONE;
        int together = 0;
        for (int one = 0; one <= k; one++) {
            for (int other = 0; other <= k; other++) {
                if (!isBest(one, other, k, v, w) || !isBest(other, one, k, v, w)) {
                    continue;
                }
                many++;
                if (first == NONE) {
                    first = 10 * one + other;
                    together = hasByBid(one, other, v, w) + hasByBid(other, one, v, w);
                }
            }
        }
        return what == 0 ? many : what == 1 ? first : together;
    }

    public int pays(int car, int cars, int n) throws NoSuchElementException, IllegalArgumentException {
        needCar(car);
        need(areCars(cars) && isWithin(n, 0, 999));
        if ((cars >> car & 1) == 0) {
            return 0;
        }
        Position now = past.latest();
        int bound = 0;
        // Above n no bound is needed: if all are no more than n, none of them is.
        while (bound < n && now.levelled(cars, bound + 1) <= n) {
            bound++;
        }
        return Math.min(bound, now.movesOf(car));
    }

    public int spare(int m) throws IllegalArgumentException {
        need(isWithin(m, 0, 20));
        for (int more = 0; more <= MOST_SPARE; more++) {
            int moves = search.seek(yard, more, past.latest().stand, NONE);
            if (moves != NONE && moves <= m) {
                return more;
            }
        }
        return NONE;
    }

    public int next(int what) throws IllegalArgumentException {
        need(isWithin(what, 0, 1));
        long stand = past.latest().stand;
        int car = yard.nextOut(stand);
        if (car == NONE || what == 0) {
            return car;
        }
        return Integer.bitCount(Stand.aheadOf(stand, car));
    }

    public int most(int what) throws IllegalArgumentException {
        need(isWithin(what, 0, 1));
        Position now = past.latest();
        int best = NONE;
        int times = 0;
        for (int car = 0; car < yard.cars; car++) {
            if (now.movesOf(car) > times) {
                best = car;
                times = now.movesOf(car);
            }
        }
        return best == NONE || what == 0 ? best : times;
    }

    public int days(int seed, int many, int q, int what) throws IllegalArgumentException {
        need(isWithin(many, 1, 60) && isWithin(q, 0, 16) && isWithin(what, 0, 3));
        days.run(yard, past.latest().stand, seed, many, q);
        switch (what) {
            case 0: return Stand.carsIn(days.stand);
            case 1: return yard.pairsOf(days.stand);
            case 2: return days.left;
            default: return days.ill;
        }
    }

    public int span(int seed, int seeds, int many, int q, int what, int car) throws IllegalArgumentException {
        need(isWithin(seeds, 1, 20) && isWithin(many, 1, 60) && isWithin(q, 0, 16));
        need(isWithin(what, 0, 2) && isWithin(car, 0, yard.cars - 1));
        int fewest = NONE;
        int greatest = 0;
        int times = 0;
        for (int i = 0; i < seeds; i++) {
            days.run(yard, past.latest().stand, seed + i, many, q);
            int pairs = yard.pairsOf(days.stand);
            fewest = fewest == NONE ? pairs : Math.min(fewest, pairs);
            greatest = Math.max(greatest, pairs);
            times += Stand.carsIn(days.stand) >> car & 1;
        }
        return what == 0 ? fewest : what == 1 ? greatest : times;
    }

    public int image() {
        if (imageCount >= MOST_IMAGES) {
            return NONE;
        }
        images[imageCount].become(past);
        imageCount++;
        return imageCount;
    }

    public int restore() {
        if (imageCount <= 0) {
            return NONE;
        }
        imageCount--;
        past.become(images[imageCount]);
        refusedSteps = 0;
        return imageCount;
    }

    public int status(int what) {
        switch (what) {
            case 0: return refusedNoSuch;
            case 1: return refusedIllegal;
            default: return NONE;
        }
    }

    public int count(int what) {
        switch (what) {
            case 0: return imageCount;
            case 1: return reader.held;
            case 2: return past.works;
            default: return NONE;
        }
    }

    private void need(boolean holds) {
        if (!holds) {
            refusedIllegal++;
            throw new IllegalArgumentException("an argument is out of its range");
        }
    }

    private void needLane(int lane) {
        if (!isWithin(lane, 0, yard.lanes - 1)) {
            refusedNoSuch++;
            throw new NoSuchElementException("no such lane");
        }
    }

    private void needCar(int car) {
        if (!isWithin(car, 0, yard.cars - 1)) {
            refusedNoSuch++;
            throw new NoSuchElementException("no such car");
        }
    }

    private boolean areCars(int bits) {
        return bits >= 0 && bits < 1 << yard.cars;
    }

    private int roomOfAll(long stand) {
        int sum = 0;
        for (int lane = 0; lane < yard.lanes; lane++) {
            sum += yard.roomOf(stand, lane);
        }
        return sum;
    }

    private static boolean isWithin(int value, int least, int greatest) {
        return value >= least && value <= greatest;
    }

    private static int hasByBid(int own, int other, int v, int w) {
        if (own == other) {
            return 0;
        }
        return own < other ? v : w - own;
    }

    private static boolean isBest(int own, int other, int k, int v, int w) {
        int has = hasByBid(own, other, v, w);
        for (int bid = 0; bid <= k; bid++) {
            if (hasByBid(bid, other, v, w) > has) {
                return false;
            }
        }
        return true;
    }

    /** The TAPE, and the text that is read from it, from left to right: so the first FAULT is the one that counts. */
    private static final class Reader {
        /** No number of a text may be so big; it keeps long ones from wrapping. */
        static final int BIG = 1000000;

        final byte[] tape = new byte[TAPE_BYTES];
        int held;
        int end;
        int at;
        int wordFrom;
        int fault;
        int faultAt = NONE;

        void take(int number) {
            for (int shift = 24; shift >= 0; shift -= 8) {
                if (held < tape.length) {
                    tape[held] = (byte) (number >> shift);
                    held++;
                }
            }
        }

        void open(int length) {
            end = Math.min(length, held);
            held = 0;
            at = 0;
            fault = 0;
            faultAt = NONE;
        }

        boolean isSound() {
            return fault == 0;
        }

        void fail(int kind, int place) {
            if (fault == 0) {
                fault = kind;
                faultAt = place;
            }
        }

        /** The byte that comes next; NONE at the end. */
        int here() {
            return at >= 0 && at < end && at < tape.length ? tape[at] & 255 : NONE;
        }

        void skipBlanks() {
            while (at < end && at < tape.length && tape[at] == ' ') {
                at++;
            }
        }

        boolean isAtEnd() {
            skipBlanks();
            return at >= end;
        }

        boolean isDigitHere() {
            int sign = here();
            return sign >= '0' && sign <= '9';
        }

        boolean isNext(char sign) {
            skipBlanks();
            return here() == sign;
        }

        boolean skipIf(char sign) {
            if (fault != 0 || !isNext(sign)) {
                return false;
            }
            at++;
            return true;
        }

        void readSign(char sign) {
            skipBlanks();
            if (here() == sign) {
                at++;
            } else {
                fail(CANNOT_STAND, at);
            }
        }

        int readNumber(int least, int greatest) {
            skipBlanks();
            int from = at;
            int value = 0;
            while (at < end && isDigitHere()) {
                value = Math.min(value * 10 + here() - '0', BIG);
                at++;
            }
            if (at == from) {
                fail(CANNOT_STAND, from);
            } else if (value < least || value > greatest) {
                fail(NO_SUCH_NUMBER, from);
            }
            return Math.max(least, Math.min(greatest, value));
        }

        /** What stands between wordFrom and at is the word then; with no letter there it is none that is known. */
        void readWord() {
            skipBlanks();
            wordFrom = at;
            while (at < end && here() >= 'a' && here() <= 'z') {
                at++;
            }
        }

        boolean isWord(String word) {
            if (fault != 0 || at - wordFrom != word.length() || wordFrom < 0 || at > tape.length) {
                return false;
            }
            for (int i = 0; i < word.length(); i++) {
                if (tape[wordFrom + i] != word.charAt(i)) {
                    return false;
                }
            }
            return true;
        }
    }

    /**
     * How the CARS stand, in one number: six slots of 3 bits for each LANE, the FRONT's lowest,
     * in each a CAR's number and 1, or 0: so driving in and out are shifts.
     */
    private static final class Stand {
        static final int CAR_BITS = 3;
        static final int CAR = (1 << CAR_BITS) - 1;
        static final int ROW_BITS = CAR_BITS * MOST_CARS;
        static final int ROW = (1 << ROW_BITS) - 1;
        static final int SLOTS = MOST_LANES * MOST_CARS;

        static int rowOf(long stand, int lane) {
            return (int) (stand >>> (ROW_BITS * lane)) & ROW;
        }

        static long withRow(long stand, int lane, int row) {
            int shift = ROW_BITS * lane;
            return (stand & ~((long) ROW << shift)) | ((long) (row & ROW) << shift);
        }

        static int frontOf(long stand, int lane) {
            return (rowOf(stand, lane) & CAR) - 1;
        }

        static int carAtWall(long stand, int lane) {
            int car = NONE;
            for (int rest = rowOf(stand, lane); rest != 0; rest >>>= CAR_BITS) {
                car = (rest & CAR) - 1;
            }
            return car;
        }

        static long driveOut(long stand, int lane) {
            return withRow(stand, lane, rowOf(stand, lane) >>> CAR_BITS);
        }

        static long driveIn(long stand, int lane, int car) {
            return withRow(stand, lane, (rowOf(stand, lane) << CAR_BITS) | (car + 1));
        }

        /** The CARS (bits) in a stand, or in a row of it. */
        static int carsIn(long slots) {
            int bits = 0;
            for (long rest = slots; rest != 0; rest >>>= CAR_BITS) {
                bits |= 1 << ((int) rest & CAR);
            }
            return bits >> 1;
        }

        static int slotOf(long stand, int car) {
            for (int slot = 0; slot < SLOTS && car >= 0; slot++) {
                if (((int) (stand >>> (CAR_BITS * slot)) & CAR) == car + 1) {
                    return slot;
                }
            }
            return NONE;
        }

        static int laneOf(long stand, int car) {
            int slot = slotOf(stand, car);
            return slot == NONE ? NONE : slot / MOST_CARS;
        }

        static int aheadOf(long stand, int car) {
            int slot = slotOf(stand, car);
            if (slot == NONE) {
                return 0;
            }
            int shift = CAR_BITS * (slot % MOST_CARS);
            return carsIn(rowOf(stand, slot / MOST_CARS) & ((1 << shift) - 1));
        }

        /** Those ahead of it stand nearer to the wall then. */
        static long takeAway(long stand, int car) {
            int slot = slotOf(stand, car);
            if (slot == NONE) {
                return stand;
            }
            int lane = slot / MOST_CARS;
            int row = rowOf(stand, lane);
            int shift = CAR_BITS * (slot % MOST_CARS);
            int ahead = row & ((1 << shift) - 1);
            return withRow(stand, lane, (row >>> (shift + CAR_BITS) << shift) | ahead);
        }
    }

    /** What the YARD's text tells, and what follows from it for CARS that stand somehow. */
    private static final class Yard {
        /** So many bits hold the LANES of all CARS to the base 4. */
        static final int EVENING_BITS = 2 * MOST_CARS;

        static final int NO_CLAUSE = 0;
        static final int LANE_CLAUSE = 1;
        static final int CAR_CLAUSE = 2;
        static final int KEY_CLAUSE = 3;
        static final int COST_CLAUSE = 4;

        static final int USUAL_COST = 5;
        static final int MOST_COST = 40;

        int lanes;
        int cars;
        int cost = USUAL_COST;
        final int[] places = new int[MOST_LANES];
        final int[] lengths = new int[MOST_CARS];
        final int[] hours = new int[MOST_CARS];
        final int[] tries = new int[MOST_CARS];
        final int[] keys = new int[MOST_CARS];
        /** The CARS (bits) that leave sooner than this one. */
        final int[] sooner = new int[MOST_CARS];
        /** The CARS as they leave, and as they come home by swap. */
        final int[] leaving = new int[MOST_CARS];
        final int[] coming = new int[MOST_CARS];

        void read(Reader reader) {
            lanes = 0;
            cars = 0;
            cost = USUAL_COST;
            for (int told = 0; told <= MOST_CLAUSES && reader.isSound() && !reader.isAtEnd(); told++) {
                readClause(reader, told);
            }
            order();
        }

        private void readClause(Reader reader, int toldBefore) {
            reader.readWord();
            int kind = kindOf(reader);
            if (kind == NO_CLAUSE) {
                reader.fail(CANNOT_STAND, reader.wordFrom);
            }
            if (toldBefore >= MOST_CLAUSES || kind == LANE_CLAUSE && lanes >= MOST_LANES
                    || kind == CAR_CLAUSE && cars >= MOST_CARS) {
                reader.fail(TOO_MANY, reader.wordFrom);
            }
            if (!reader.isSound()) {
                return;
            }
            switch (kind) {
                case LANE_CLAUSE: readLane(reader); break;
                case CAR_CLAUSE: readCar(reader); break;
                case KEY_CLAUSE: readKey(reader); break;
                default: cost = reader.readNumber(0, MOST_COST);
            }
            reader.readSign(';');
        }

        private static int kindOf(Reader reader) {
            if (reader.isWord("lane")) {
                return LANE_CLAUSE;
            }
            if (reader.isWord("car")) {
                return CAR_CLAUSE;
            }
            if (reader.isWord("key")) {
                return KEY_CLAUSE;
            }
            return reader.isWord("cost") ? COST_CLAUSE : NO_CLAUSE;
        }

        private void readLane(Reader reader) {
            int told = reader.readNumber(1, MOST_PLACES);
            if (reader.isSound() && lanes < MOST_LANES) {
                places[lanes] = told;
                lanes++;
            }
        }

        private void readCar(Reader reader) {
            int length = reader.readNumber(1, 2);
            int hour = reader.readNumber(0, 99);
            int start = reader.readNumber(0, 9);
            if (reader.isSound() && cars < MOST_CARS) {
                lengths[cars] = length;
                hours[cars] = hour;
                tries[cars] = start;
                keys[cars] = 1 << cars;
                cars++;
            }
        }

        private void readKey(Reader reader) {
            int owner = reader.readNumber(0, cars - 1);
            int moved = reader.readNumber(0, cars - 1);
            if (reader.isSound() && owner < cars) {
                keys[owner] |= 1 << moved;
            }
        }

        private void order() {
            for (int car = 0; car < cars; car++) {
                int before = 0;
                int home = 0;
                for (int other = 0; other < cars; other++) {
                    if (isSooner(other, car)) {
                        before |= 1 << other;
                    }
                    if (hours[other] > hours[car] || hours[other] == hours[car] && other < car) {
                        home++;
                    }
                }
                sooner[car] = before;
                leaving[Math.min(Integer.bitCount(before), MOST_CARS - 1)] = car;
                coming[Math.min(home, MOST_CARS - 1)] = car;
            }
        }

        private boolean isSooner(int one, int other) {
            return hours[one] < hours[other] || hours[one] == hours[other] && one < other;
        }

        int placesOf(int lane) {
            return lane >= 0 && lane < lanes ? places[lane] : 0;
        }

        int lengthOf(int car) {
            return car >= 0 && car < cars ? lengths[car] : 0;
        }

        int hourOf(int car) {
            return car >= 0 && car < cars ? hours[car] : 0;
        }

        int triesOf(int car) {
            return car >= 0 && car < cars ? tries[car] : 0;
        }

        int keysOf(int car) {
            return car >= 0 && car < cars ? keys[car] : 0;
        }

        int roomOf(long stand, int lane) {
            int room = placesOf(lane);
            for (int rest = Stand.rowOf(stand, lane); rest != 0; rest >>>= Stand.CAR_BITS) {
                room -= lengthOf((rest & Stand.CAR) - 1);
            }
            return room;
        }

        int carOn(long stand, int lane, int place) {
            int row = Stand.rowOf(stand, lane);
            int from = 0;
            for (int shift = Stand.ROW_BITS - Stand.CAR_BITS; shift >= 0; shift -= Stand.CAR_BITS) {
                int car = ((row >>> shift) & Stand.CAR) - 1;
                int length = lengthOf(car);
                if (place >= from && place < from + length) {
                    return car;
                }
                from += length;
            }
            return NONE;
        }

        int firstPlaceOf(long stand, int car) {
            int lane = Stand.laneOf(stand, car);
            for (int place = 0; place < placesOf(lane); place++) {
                if (carOn(stand, lane, place) == car) {
                    return place;
                }
            }
            return NONE;
        }

        int pairsOf(long stand) {
            return blockings(stand, MOST_CARS);
        }

        /**
         * For each CAR those behind it that leave sooner, counted up to a bound, in all.
         * By 1 these are the CARS that block one: each has to be moved before all are out.
         */
        int blockings(long stand, int bound) {
            int sum = 0;
            int behind = 0;
            for (int slot = Stand.SLOTS - 1; slot >= 0; slot--) {
                if (slot % MOST_CARS == MOST_CARS - 1) {
                    behind = 0;
                }
                int car = ((int) (stand >>> (Stand.CAR_BITS * slot)) & Stand.CAR) - 1;
                if (car >= 0 && car < cars) {
                    sum += Math.min(bound, Integer.bitCount(behind & sooner[car]));
                    behind |= 1 << car;
                }
            }
            return sum;
        }

        int nextOut(long stand) {
            int in = Stand.carsIn(stand);
            for (int i = 0; i < cars; i++) {
                if ((in >> leaving[i] & 1) != 0) {
                    return leaving[i];
                }
            }
            return NONE;
        }

        /** Those whose turn it is leave, as long as they are FRONT. */
        long letOut(long stand) {
            long now = stand;
            for (int i = 0; i < cars; i++) {
                int lane = Stand.laneOf(now, leaving[i]);
                if (lane == NONE) {
                    continue;
                }
                if (Stand.frontOf(now, lane) != leaving[i]) {
                    return now;
                }
                now = Stand.driveOut(now, lane);
            }
            return now;
        }

        /** By swap; the same, if none comes in. */
        long comeHome(long stand) {
            long now = stand;
            for (int i = 0; i < cars; i++) {
                int car = coming[i];
                if (Stand.laneOf(now, car) != NONE) {
                    continue;
                }
                int lane = widestLane(now);
                if (lane != NONE && roomOf(now, lane) >= lengthOf(car)) {
                    now = Stand.driveIn(now, lane, car);
                }
            }
            return now;
        }

        private int widestLane(long stand) {
            int widest = NONE;
            for (int lane = 0; lane < lanes; lane++) {
                if (widest == NONE || roomOf(stand, lane) > roomOf(stand, widest)) {
                    widest = lane;
                }
            }
            return widest;
        }

        boolean getsOutAlone(long stand, int car) {
            int lane = Stand.laneOf(stand, car);
            int ahead = Stand.aheadOf(stand, car);
            if ((ahead & ~keysOf(car)) != 0) {
                return false;
            }
            long now = stand;
            for (int i = 0; i < MOST_CARS && lane != NONE && Stand.frontOf(now, lane) != car; i++) {
                int front = Stand.frontOf(now, lane);
                int to = firstOtherLane(now, lane, lengthOf(front));
                if (to == NONE) {
                    return false;
                }
                now = Stand.driveIn(Stand.driveOut(now, lane), to, front);
            }
            return true;
        }

        private int firstOtherLane(long stand, int from, int length) {
            for (int lane = 0; lane < lanes; lane++) {
                if (lane != from && roomOf(stand, lane) >= length) {
                    return lane;
                }
            }
            return NONE;
        }

        /** The PAIRS ahead of EVENING_BITS bits that hold the LANES: of two ways the better one is less. */
        int bestEvening(int told) {
            int ways = 1;
            for (int i = 0; i < Integer.bitCount(told); i++) {
                ways *= lanes;
            }
            int best = NONE;
            for (int way = 0; way < ways; way++) {
                int found = eveningBy(way, told);
                if (found != NONE && (best == NONE || found < best)) {
                    best = found;
                }
            }
            return best;
        }

        private int eveningBy(int way, int told) {
            long stand = 0;
            int digits = 0;
            int rest = way;
            for (int car = 0; car < cars; car++) {
                if ((told >> car & 1) == 0 || lanes <= 0) {
                    continue;
                }
                int lane = rest % lanes;
                rest /= lanes;
                if (roomOf(stand, lane) < lengthOf(car)) {
                    return NONE;
                }
                stand = Stand.driveIn(stand, lane, car);
                digits = digits * 4 + lane;
            }
            return pairsOf(stand) << EVENING_BITS | digits;
        }
    }

    /** How long a move takes: each sign behind its operands, so that a row of values is enough to reckon it. */
    private static final class Law {
        static final int FACTS = 8;
        static final int FIRST_FACT = 1000;
        static final int PLUS = 1100;
        static final int MINUS = 1101;
        static final int TIMES = 1102;
        static final int BY = 1103;
        static final int REST = 1104;
        static final int LEAST = 1105;
        static final int MOST = 1106;

        final int[] code = new int[LAW_BYTES + 10];
        final int[] values = new int[LAW_BYTES + 10];
        /** length, tries, hour, car, lane, cars, moved, own. */
        final int[] facts = new int[FACTS];
        int size;

        Law() {
            writeDefault();
        }

        void clear() {
            writeDefault();
        }

        private void writeDefault() {
            size = 0;
            write(FIRST_FACT);
            write(10);
            write(TIMES);
            write(FIRST_FACT + 1);
            write(5);
            write(TIMES);
            write(PLUS);
        }

        private void write(int sign) {
            if (size < code.length) {
                code[size] = sign;
                size++;
            }
        }

        void read(Reader reader) {
            size = 0;
            readSum(reader, 0);
            if (!reader.isAtEnd()) {
                reader.fail(CANNOT_STAND, reader.at);
            }
        }

        private void readSum(Reader reader, int open) {
            readProduct(reader, open);
            for (int i = 0; i < LAW_BYTES; i++) {
                int sign = reader.skipIf('+') ? PLUS : reader.skipIf('-') ? MINUS : NONE;
                if (sign == NONE) {
                    return;
                }
                readProduct(reader, open);
                write(sign);
            }
        }

        private void readProduct(Reader reader, int open) {
            readUnit(reader, open);
            for (int i = 0; i < LAW_BYTES; i++) {
                int sign = reader.skipIf('*') ? TIMES : reader.skipIf('/') ? BY : reader.skipIf('%') ? REST : NONE;
                if (sign == NONE) {
                    return;
                }
                readUnit(reader, open);
                write(sign);
            }
        }

        private void readUnit(Reader reader, int open) {
            if (!reader.isSound()) {
                return;
            }
            if (reader.isNext('(')) {
                readBracket(reader, open);
                return;
            }
            if (reader.isDigitHere()) {
                write(reader.readNumber(0, 999));
                return;
            }
            reader.readWord();
            int fact = factOf(reader);
            if (fact != NONE) {
                write(FIRST_FACT + fact);
            } else if (reader.isWord("least")) {
                readTwo(reader, open, LEAST);
            } else if (reader.isWord("most")) {
                readTwo(reader, open, MOST);
            } else {
                reader.fail(CANNOT_STAND, reader.wordFrom);
            }
        }

        private void readBracket(Reader reader, int open) {
            if (open >= MOST_OPEN) {
                reader.fail(TOO_MANY, reader.at);
                return;
            }
            reader.readSign('(');
            readSum(reader, open + 1);
            reader.readSign(')');
        }

        private void readTwo(Reader reader, int open, int sign) {
            if (open >= MOST_OPEN) {
                reader.fail(TOO_MANY, reader.wordFrom);
                return;
            }
            reader.readSign('[');
            readSum(reader, open + 1);
            reader.readSign(',');
            readSum(reader, open + 1);
            reader.readSign(']');
            write(sign);
        }

        private static int factOf(Reader reader) {
            if (reader.isWord("length")) {
                return 0;
            }
            if (reader.isWord("tries")) {
                return 1;
            }
            if (reader.isWord("hour")) {
                return 2;
            }
            if (reader.isWord("car")) {
                return 3;
            }
            if (reader.isWord("lane")) {
                return 4;
            }
            if (reader.isWord("cars")) {
                return 5;
            }
            if (reader.isWord("moved")) {
                return 6;
            }
            return reader.isWord("own") ? 7 : NONE;
        }

        void tellCar(int length, int tries, int hour, int car) {
            facts[0] = length;
            facts[1] = tries;
            facts[2] = hour;
            facts[3] = car;
        }

        void tellMove(int lane, int cars, int moved, int own) {
            facts[4] = lane;
            facts[5] = cars;
            facts[6] = moved;
            facts[7] = own;
        }

        int secondsNow(Yard yard, Position now, int car, int own) {
            int lane = Stand.laneOf(now.stand, car);
            int cars = lane == NONE ? 0 : Integer.bitCount(Stand.carsIn(Stand.rowOf(now.stand, lane)));
            tellCar(yard.lengthOf(car), yard.triesOf(car), yard.hourOf(car), car);
            tellMove(Math.max(lane, 0), cars, now.movesOf(car), own);
            return secondsTold();
        }

        int secondsTold() {
            int top = 0;
            for (int i = 0; i < size && i < code.length; i++) {
                int sign = code[i];
                if (sign < FIRST_FACT + FACTS && top < values.length) {
                    values[top] = sign < FIRST_FACT ? sign : facts[sign - FIRST_FACT];
                    top++;
                } else if (top >= 2) {
                    values[top - 2] = reckon(sign, values[top - 2], values[top - 1]);
                    top--;
                }
            }
            return Math.max(1, Math.min(99, values[0]));
        }

        private static int reckon(int sign, int a, int b) {
            switch (sign) {
                case PLUS: return a + b;
                case MINUS: return a - b;
                case TIMES: return a * b;
                case BY: return b == 0 ? 0 : a / b;
                case REST: return b == 0 ? 0 : a % b;
                case LEAST: return Math.min(a, b);
                default: return Math.max(a, b);
            }
        }
    }

    /** WORK as a row of STEPS; an again is one where it begins and one where it ends. */
    private static final class Work {
        static final int PARK = 0;
        static final int MOVE = 1;
        static final int LEAVE = 2;
        static final int SWAP = 3;
        static final int AGAIN = 4;
        static final int END = 5;
        static final int MOST_TURNS = 1000000;

        final int[] kinds = new int[WORK_BYTES];
        /** park: C, L; move: A, L, M; leave: -, L; again: N, its end; end: where it begins. */
        final int[] ones = new int[WORK_BYTES];
        final int[] twos = new int[WORK_BYTES];
        final int[] threes = new int[WORK_BYTES];
        final int[] roundsLeft = new int[WORK_BYTES];
        int size;
        int done;
        int refused;

        void read(Reader reader, Yard yard) {
            size = 0;
            readSteps(reader, yard, 0);
        }

        private void readSteps(Reader reader, Yard yard, int open) {
            for (int i = 0; i < WORK_BYTES && reader.isSound(); i++) {
                if (open == 0 ? reader.isAtEnd() : reader.isNext(']')) {
                    return;
                }
                readStep(reader, yard, open);
                reader.readSign(';');
            }
        }

        private void readStep(Reader reader, Yard yard, int open) {
            reader.readWord();
            if (reader.isWord("park")) {
                int car = reader.readNumber(0, yard.cars - 1);
                write(PARK, car, readLane(reader, yard), 0);
            } else if (reader.isWord("move")) {
                int owner = reader.readNumber(0, yard.cars - 1);
                int from = readLane(reader, yard);
                write(MOVE, owner, from, readLane(reader, yard));
            } else if (reader.isWord("leave")) {
                write(LEAVE, 0, readLane(reader, yard), 0);
            } else if (reader.isWord("swap")) {
                write(SWAP, 0, 0, 0);
            } else if (reader.isWord("again")) {
                readAgain(reader, yard, open);
            } else {
                reader.fail(CANNOT_STAND, reader.wordFrom);
            }
        }

        private static int readLane(Reader reader, Yard yard) {
            return reader.readNumber(0, yard.lanes - 1);
        }

        private void readAgain(Reader reader, Yard yard, int open) {
            if (open >= MOST_OPEN) {
                reader.fail(TOO_MANY, reader.wordFrom);
                return;
            }
            int begin = size;
            write(AGAIN, reader.readNumber(0, 30), 0, 0);
            reader.readSign('[');
            readSteps(reader, yard, open + 1);
            reader.readSign(']');
            if (begin < size) {
                twos[begin] = size;
            }
            write(END, begin, 0, 0);
        }

        private void write(int kind, int one, int two, int three) {
            if (size < kinds.length) {
                kinds[size] = kind;
                ones[size] = one;
                twos[size] = two;
                threes[size] = three;
                size++;
            }
        }

        void run(Yard yard, Law law, Position now) {
            done = 0;
            refused = 0;
            int begun = 0;
            int at = 0;
            for (int turn = 0; turn < MOST_TURNS && at >= 0 && at < size; turn++) {
                if (kinds[at] == END) {
                    at = endRound(at);
                    continue;
                }
                if (begun >= MOST_STEPS) {
                    return;
                }
                begun++;
                if (kinds[at] == AGAIN) {
                    roundsLeft[at] = ones[at];
                    at = ones[at] > 0 ? at + 1 : twos[at] + 1;
                } else {
                    countStep(doStep(at, yard, law, now));
                    at++;
                }
            }
        }

        private int endRound(int at) {
            int begin = ones[at];
            if (begin < 0 || begin >= at) {
                return at + 1;
            }
            roundsLeft[begin]--;
            return roundsLeft[begin] > 0 ? begin + 1 : at + 1;
        }

        private void countStep(boolean wasDone) {
            if (wasDone) {
                done++;
            } else {
                refused++;
            }
        }

        private boolean doStep(int at, Yard yard, Law law, Position now) {
            switch (kinds[at]) {
                case PARK: return park(ones[at], twos[at], yard, now);
                case MOVE: return move(at, yard, law, now);
                case LEAVE: return driveOff(twos[at], now);
                default: return now.standsAs(yard.comeHome(now.stand));
            }
        }

        private static boolean park(int car, int lane, Yard yard, Position now) {
            if (Stand.laneOf(now.stand, car) != NONE || yard.roomOf(now.stand, lane) < yard.lengthOf(car)) {
                return false;
            }
            now.stand = Stand.driveIn(now.stand, lane, car);
            return true;
        }

        private boolean move(int at, Yard yard, Law law, Position now) {
            int owner = ones[at];
            int from = twos[at];
            int to = threes[at];
            int car = Stand.frontOf(now.stand, from);
            if (car == NONE || from == to || (yard.keysOf(owner) >> car & 1) == 0
                    || yard.roomOf(now.stand, to) < yard.lengthOf(car)) {
                return false;
            }
            now.spent += law.secondsNow(yard, now, car, owner == car ? 1 : 0);
            now.addMove(car);
            now.stand = Stand.driveIn(Stand.driveOut(now.stand, from), to, car);
            return true;
        }

        private static boolean driveOff(int lane, Position now) {
            if (Stand.frontOf(now.stand, lane) == NONE) {
                return false;
            }
            now.stand = Stand.driveOut(now.stand, lane);
            return true;
        }
    }

    /** All that WORK changes. */
    private static final class Position {
        long stand;
        int spent;
        final int[] moves = new int[MOST_CARS];

        void become(Position other) {
            stand = other.stand;
            spent = other.spent;
            System.arraycopy(other.moves, 0, moves, 0, MOST_CARS);
        }

        /** Whether that is another stand. */
        boolean standsAs(long other) {
            boolean isOther = other != stand;
            stand = other;
            return isOther;
        }

        void addMove(int car) {
            if (car >= 0 && car < moves.length) {
                moves[car]++;
            }
        }

        int movesOf(int car) {
            return car >= 0 && car < moves.length ? moves[car] : 0;
        }

        int allMoves() {
            int sum = 0;
            for (int car = 0; car < moves.length; car++) {
                sum += moves[car];
            }
            return sum;
        }

        /** What is given in all, if none of these CARS gives more than the bound, nor more than it was moved. */
        int levelled(int cars, int bound) {
            int sum = 0;
            for (int car = 0; car < moves.length; car++) {
                sum += (cars >> car & 1) == 0 ? 0 : Math.min(bound, moves[car]);
            }
            return sum;
        }
    }

    /** What was before each WORK that can be undone, and, last, what is now: so ahead of any WORK all are out. */
    private static final class Past {
        final Position[] rows = new Position[MOST_WORKS + 1];
        int works;

        Past() {
            for (int i = 0; i < rows.length; i++) {
                rows[i] = new Position();
            }
        }

        Position latest() {
            return rows[Math.max(0, Math.min(works, MOST_WORKS))];
        }

        void begin() {
            if (works < MOST_WORKS) {
                rows[works + 1].become(rows[works]);
                works++;
            }
        }

        void become(Past other) {
            works = other.works;
            for (int i = 0; i <= works && i < rows.length; i++) {
                rows[i].become(other.rows[i]);
            }
        }
    }

    /** The fewest moves by which a CAR is FRONT, or by which all are out. */
    private static final class Search {
        /** Six CARS, and as they leave fewer, can stand in 18,556 ways in three LANES (8, 4 and 4 places at most). */
        static final int MOST_STANDS = 20000;
        static final int SLOT_BITS = 15;
        static final int SLOTS = 1 << SLOT_BITS;
        static final int MOST_STAMPS = 1 << 16;
        /** The golden part of 64 bits: stands that are much alike get slots far apart. */
        static final long SPREAD = 0x9E3779B97F4A7C15L;
        /** Few more moves than the least that can be are the rule; behind these passes nothing is cut. */
        static final int LAST_PASS = 4;

        final long[] stands = new long[MOST_STANDS];
        final byte[] firsts = new byte[MOST_STANDS];
        /** By a stand's hash: where it is, below a stamp that tells that it was met in this pass. */
        final int[] slots = new int[SLOTS];
        int size;
        int stamp;
        Yard yard = new Yard();
        int placesMore;
        int goal;
        int limit;
        boolean wasCut;
        int fewest;
        int first;

        /** The fewest moves; with a goal NONE all leave. */
        int seek(Yard told, int more, long start, int goalCar) {
            yard = told;
            placesMore = more;
            goal = goalCar;
            fewest = NONE;
            first = NONE;
            long from = goal == NONE ? yard.letOut(start) : start;
            if (isReached(from)) {
                return 0;
            }
            int least = leastFrom(from);
            wasCut = true;
            for (int pass = 0; pass <= LAST_PASS && wasCut && fewest == NONE; pass++) {
                limit = pass < LAST_PASS ? least + pass : MOST_STANDS;
                spread(from);
            }
            return fewest;
        }

        /**
         * From near to far, least moves first: so the way that is met first has the least first move.
         * What can't be a part of a way within the limit is cut: no way of the fewest moves, once they are within it.
         */
        private void spread(long from) {
            size = 0;
            wasCut = false;
            stamp++;
            if (stamp >= MOST_STAMPS) {
                Arrays.fill(slots, 0);
                stamp = 1;
            }
            keep(from, 0);
            int levelEnd = size;
            int moves = 1;
            for (int i = 0; i < size && i < MOST_STANDS && fewest == NONE; i++) {
                if (i == levelEnd) {
                    levelEnd = size;
                    moves++;
                }
                moveFrom(i, moves);
            }
        }

        private void moveFrom(int index, int moves) {
            long stand = stands[index];
            int awaited = goal == NONE ? yard.nextOut(stand) : goal;
            for (int from = 0; from < yard.lanes; from++) {
                int car = Stand.frontOf(stand, from);
                for (int to = 0; to < yard.lanes && car != NONE; to++) {
                    if (to == from || roomOf(stand, to) < yard.lengthOf(car)) {
                        continue;
                    }
                    long then = Stand.driveIn(Stand.driveOut(stand, from), to, car);
                    if (goal == NONE && Stand.frontOf(then, from) == awaited) {
                        then = yard.letOut(then);
                    }
                    arrive(then, moves, index == 0 ? 10 * from + to : firsts[index]);
                    if (fewest != NONE) {
                        return;
                    }
                }
            }
        }

        private int roomOf(long stand, int lane) {
            return yard.roomOf(stand, lane) + (lane == 0 ? placesMore : 0);
        }

        private void arrive(long stand, int moves, int firstMove) {
            if (isReached(stand)) {
                fewest = moves;
                first = firstMove;
            } else if (moves + leastFrom(stand) > limit) {
                wasCut = true;
            } else {
                keep(stand, firstMove);
            }
        }

        private boolean isReached(long stand) {
            return goal == NONE ? stand == 0 : Stand.aheadOf(stand, goal) == 0;
        }

        private int leastFrom(long stand) {
            return goal == NONE ? yard.blockings(stand, 1) : Integer.bitCount(Stand.aheadOf(stand, goal));
        }

        private void keep(long stand, int firstMove) {
            int slot = (int) ((stand * SPREAD) >>> (64 - SLOT_BITS));
            for (int i = 0; i < SLOTS && size < MOST_STANDS; i++) {
                int held = slots[slot];
                if (held >>> SLOT_BITS != stamp) {
                    slots[slot] = (stamp << SLOT_BITS) | size;
                    stands[size] = stand;
                    firsts[size] = (byte) firstMove;
                    size++;
                    return;
                }
                int index = held & (SLOTS - 1);
                if (index < size && stands[index] == stand) {
                    return;
                }
                slot = (slot + 1) & (SLOTS - 1);
            }
        }
    }

    /** What the SPOTS tell, a bit for each place (the LANE times 4, and the place), and who may leak by them. */
    private static final class Spots {
        static final int PLACES = MOST_LANES * MOST_PLACES;
        static final int EMPTY = 0;

        int lines;
        int oil;
        /** The places there are, and who (a bit) stands on each. */
        int places;
        final int[] standing = new int[PLACES];
        int cars;

        void clear() {
            lines = 0;
            oil = 0;
        }

        void read(Reader reader, Yard yard) {
            clear();
            for (int i = 0; i < SPOTS_BYTES && reader.isSound() && !reader.isAtEnd(); i++) {
                readLine(reader, yard);
            }
        }

        private void readLine(Reader reader, Yard yard) {
            int lane = reader.readNumber(0, yard.lanes - 1);
            reader.skipBlanks();
            int from = reader.at;
            int place = lane * MOST_PLACES + reader.readNumber(0, yard.placesOf(lane) - 1);
            if ((lines >> place & 1) != 0) {
                reader.fail(NO_SUCH_NUMBER, from);
            }
            int seen = reader.readNumber(0, 1);
            reader.readSign(';');
            lines |= 1 << place;
            oil |= seen << place;
        }

        void lookAt(Yard yard, long stand) {
            cars = yard.cars;
            places = 0;
            for (int i = 0; i < PLACES; i++) {
                int lane = i / MOST_PLACES;
                int car = yard.carOn(stand, lane, i % MOST_PLACES);
                standing[i] = car == NONE ? EMPTY : 1 << car;
                if (i % MOST_PLACES < yard.placesOf(lane)) {
                    places |= 1 << i;
                }
            }
        }

        private boolean isRight(int set) {
            for (int i = 0; i < PLACES; i++) {
                boolean leaked = (set & standing[i]) != 0;
                if ((lines >> i & 1) != 0 && leaked != ((oil >> i & 1) != 0)) {
                    return false;
                }
            }
            return true;
        }

        int howManySets() {
            int many = 0;
            for (int set = 0; set < 1 << cars; set++) {
                many += isRight(set) ? 1 : 0;
            }
            return many;
        }

        int firstSet() {
            for (int set = 0; set < 1 << cars; set++) {
                if (isRight(set)) {
                    return set;
                }
            }
            return NONE;
        }

        int carsInAllSets() {
            int common = NONE;
            for (int set = 0; set < 1 << cars; set++) {
                if (isRight(set)) {
                    common &= set;
                }
            }
            return common == NONE ? 0 : common;
        }

        /** How many sets are left at the worst, if this place is looked at. */
        int worstAt(int place) {
            int oily = 0;
            int dry = 0;
            for (int set = 0; set < 1 << cars; set++) {
                if (isRight(set) && isWithin(place, 0, PLACES - 1)) {
                    boolean leaked = (set & standing[place]) != 0;
                    oily += leaked ? 1 : 0;
                    dry += leaked ? 0 : 1;
                }
            }
            return Math.max(oily, dry);
        }

        int bestPlace() {
            int best = NONE;
            int left = 0;
            for (int i = 0; i < PLACES; i++) {
                if ((places & ~lines & 1 << i) == 0) {
                    continue;
                }
                int worst = worstAt(i);
                if (best == NONE || worst < left) {
                    best = i;
                    left = worst;
                }
            }
            return best;
        }
    }

    /** Mornings and evenings by a SEED. */
    private static final class Days {
        int seed;
        long stand;
        int left;
        int ill;

        void run(Yard yard, long start, int firstSeed, int many, int q) {
            seed = firstSeed;
            stand = start;
            left = 0;
            ill = 0;
            for (int day = 0; day < many; day++) {
                int illCar = drawIll(yard, q);
                if (illCar != NONE && Stand.laneOf(stand, illCar) != NONE) {
                    ill++;
                }
                for (int lane = 0; lane < yard.lanes; lane++) {
                    letLaneOut(lane, illCar);
                }
                stand = yard.comeHome(stand);
            }
        }

        private int drawIll(Yard yard, int q) {
            if (draw(16) >= q || yard.cars == 0) {
                return NONE;
            }
            return draw(yard.cars);
        }

        private int draw(int by) {
            seed = seed * 1103515245 + 12345;
            return by <= 0 ? 0 : (seed >>> 16 & 0x7FFF) % by;
        }

        private void letLaneOut(int lane, int illCar) {
            for (int i = 0; i < MOST_CARS; i++) {
                int front = Stand.frontOf(stand, lane);
                if (front == NONE || front == illCar) {
                    return;
                }
                stand = Stand.driveOut(stand, lane);
                left++;
            }
        }
    }
}
