import java.util.ArrayDeque;
import java.util.ArrayList;
import java.util.Arrays;
import java.util.HashMap;
import java.util.List;
import java.util.Map;
import java.util.NoSuchElementException;

/** The document once more, in the plainest way and without the class's shortcuts, to compare with it. */
final class PlainModel {
    static final class Fault extends RuntimeException {
        private static final long serialVersionUID = 1L;
        final int kind;
        final int place;

        Fault(int kind, int place) {
            this.kind = kind;
            this.place = place;
        }
    }

    record Token(char kind, String text, int place) { }

    record Car(int length, int hour, int tries) { }

    record Step(String word, int a, int b, int c, List<Step> body) { }

    interface Expression {
        int value(Map<String, Integer> facts);
    }

    record State(List<List<Integer>> lanes, int[] moved, int seconds) {
        State copy() {
            return new State(copyOf(lanes), moved.clone(), seconds);
        }
    }

    static List<List<Integer>> copyOf(List<List<Integer>> lanes) {
        List<List<Integer>> copy = new ArrayList<>();
        for (List<Integer> lane : lanes) {
            copy.add(new ArrayList<>(lane));
        }
        return copy;
    }

    private StringBuilder tape = new StringBuilder();
    private List<Integer> places = new ArrayList<>();
    private List<Car> cars = new ArrayList<>();
    private boolean[][] keys = new boolean[6][6];
    private int cost = 5;
    private Expression law = null;
    private Map<Integer, Integer> spots = new HashMap<>();
    private State now = new State(new ArrayList<>(), new int[6], 0);
    private List<State> past = new ArrayList<>();
    private List<State> imageNow = new ArrayList<>();
    private List<List<State>> imagePast = new ArrayList<>();
    private int faultPlace = -1;
    private int refused = 0;
    private int noSuch = 0;
    private int illegal = 0;

    // ---- texts

    private List<Token> tokens = new ArrayList<>();
    private int token;
    private int textLength;

    private void open(int n) {
        String text = tape.substring(0, n);
        tape = new StringBuilder();
        tokens = new ArrayList<>();
        token = 0;
        textLength = n;
        int i = 0;
        while (i < n) {
            char c = text.charAt(i);
            int j = i + 1;
            if (c >= '0' && c <= '9') {
                while (j < n && text.charAt(j) >= '0' && text.charAt(j) <= '9') {
                    j++;
                }
                tokens.add(new Token('n', text.substring(i, j), i));
            } else if (c >= 'a' && c <= 'z') {
                while (j < n && text.charAt(j) >= 'a' && text.charAt(j) <= 'z') {
                    j++;
                }
                tokens.add(new Token('w', text.substring(i, j), i));
            } else if (c != ' ') {
                tokens.add(new Token('s', text.substring(i, j), i));
            }
            i = j;
        }
    }

    private boolean over() {
        return token >= tokens.size();
    }

    private Token peek() {
        return over() ? new Token('e', "", textLength) : tokens.get(token);
    }

    private boolean sees(String text) {
        return peek().text.equals(text) && !over();
    }

    private void sign(String text) {
        if (!sees(text)) {
            throw new Fault(1, peek().place);
        }
        token++;
    }

    private int number(int least, int greatest) {
        Token t = peek();
        if (t.kind != 'n') {
            throw new Fault(1, t.place);
        }
        java.math.BigInteger value = new java.math.BigInteger(t.text);
        if (value.bitLength() > 30 || value.intValue() < least || value.intValue() > greatest) {
            throw new Fault(2, t.place);
        }
        token++;
        return value.intValue();
    }

    private Token word(String... known) {
        Token t = peek();
        if (t.kind != 'w' || !Arrays.asList(known).contains(t.text)) {
            throw new Fault(1, t.place);
        }
        token++;
        return t;
    }

    private void needLength(int n, int greatest) {
        need(n >= 0 && n <= Math.min(greatest, tape.length()));
    }

    private void need(boolean holds) {
        if (!holds) {
            illegal++;
            throw new IllegalArgumentException();
        }
    }

    private void needCar(int car) {
        if (car < 0 || car >= cars.size()) {
            noSuch++;
            throw new NoSuchElementException();
        }
    }

    private void needLane(int lane) {
        if (lane < 0 || lane >= places.size()) {
            noSuch++;
            throw new NoSuchElementException();
        }
    }

    private void needBits(int bits) {
        need((bits & -(1 << cars.size())) == 0);
    }

    int feed(int a, int b, int c, int d, int e) {
        if (tape.length() > 580) {
            return -1;
        }
        for (int x : new int[] {a, b, c, d, e}) {
            for (int k = 3; k >= 0; k--) {
                tape.append((char) ((x >>> 8 * k) & 255));
            }
        }
        return tape.length();
    }

    int yard(int n) {
        needLength(n, 600);
        open(n);
        List<Integer> newPlaces = new ArrayList<>();
        List<Car> newCars = new ArrayList<>();
        boolean[][] newKeys = new boolean[6][6];
        int newCost = 5;
        try {
            for (int clauses = 1; !over(); clauses++) {
                Token t = word("lane", "car", "key", "cost");
                boolean tooMany = clauses > 60 || t.text.equals("lane") && newPlaces.size() == 3
                        || t.text.equals("car") && newCars.size() == 6;
                if (tooMany) {
                    throw new Fault(3, t.place);
                }
                switch (t.text) {
                    case "lane" -> newPlaces.add(number(1, 4));
                    case "car" -> newCars.add(new Car(number(1, 2), number(0, 99), number(0, 9)));
                    case "key" -> {
                        int a = number(0, newCars.size() - 1);
                        newKeys[a][number(0, newCars.size() - 1)] = true;
                    }
                    default -> newCost = number(0, 40);
                }
                sign(";");
            }
        } catch (Fault f) {
            faultPlace = f.place;
            return f.kind - 10;
        }
        faultPlace = -1;
        places = newPlaces;
        cars = newCars;
        keys = newKeys;
        for (int i = 0; i < 6; i++) {
            keys[i][i] = true;
        }
        cost = newCost;
        law = null;
        spots = new HashMap<>();
        now = new State(new ArrayList<>(), new int[6], 0);
        for (int i = 0; i < places.size(); i++) {
            now.lanes.add(new ArrayList<>());
        }
        past = new ArrayList<>();
        imageNow = new ArrayList<>();
        imagePast = new ArrayList<>();
        refused = 0;
        return cars.size();
    }

    int law(int n) {
        needLength(n, 150);
        open(n);
        try {
            Expression told = sum(0);
            if (!over()) {
                throw new Fault(1, peek().place);
            }
            law = told;
            faultPlace = -1;
            return 1;
        } catch (Fault f) {
            faultPlace = f.place;
            return f.kind - 10;
        }
    }

    private Expression sum(int open) {
        Expression left = product(open);
        while (sees("+") || sees("-")) {
            boolean plus = sees("+");
            token++;
            Expression a = left;
            Expression b = product(open);
            left = plus ? f -> a.value(f) + b.value(f) : f -> a.value(f) - b.value(f);
        }
        return left;
    }

    private Expression product(int open) {
        Expression left = unit(open);
        while (sees("*") || sees("/") || sees("%")) {
            String sign = peek().text;
            token++;
            Expression a = left;
            Expression b = unit(open);
            left = f -> {
                int x = a.value(f);
                int y = b.value(f);
                return sign.equals("*") ? x * y : y == 0 ? 0 : sign.equals("/") ? x / y : x % y;
            };
        }
        return left;
    }

    private Expression unit(int open) {
        Token t = peek();
        if (t.kind == 'n') {
            int value = number(0, 999);
            return f -> value;
        }
        if (t.kind == 's' && t.text.equals("(")) {
            if (open == 6) {
                throw new Fault(3, t.place);
            }
            token++;
            Expression inner = sum(open + 1);
            sign(")");
            return inner;
        }
        word("length", "tries", "hour", "car", "lane", "cars", "moved", "own", "least", "most");
        if (!t.text.equals("least") && !t.text.equals("most")) {
            return f -> f.get(t.text);
        }
        if (open == 6) {
            throw new Fault(3, t.place);
        }
        sign("[");
        Expression a = sum(open + 1);
        sign(",");
        Expression b = sum(open + 1);
        sign("]");
        return f -> t.text.equals("least") ? Math.min(a.value(f), b.value(f)) : Math.max(a.value(f), b.value(f));
    }

    int work(int n) {
        needLength(n, 150);
        if (past.size() == 16) {
            tape = new StringBuilder();
            faultPlace = -1;
            return -20;
        }
        open(n);
        List<Step> steps;
        try {
            steps = steps(0);
        } catch (Fault f) {
            faultPlace = f.place;
            return f.kind - 10;
        }
        faultPlace = -1;
        past.add(now.copy());
        begun = 0;
        done = 0;
        refused = 0;
        run(steps);
        return done;
    }

    private List<Step> steps(int open) {
        List<Step> steps = new ArrayList<>();
        while (open == 0 ? !over() : !sees("]")) {
            Token t = word("park", "move", "leave", "swap", "again");
            switch (t.text) {
                case "park" -> steps.add(new Step("park", number(0, cars.size() - 1), number(0, places.size() - 1), 0, null));
                case "move" -> steps.add(new Step("move", number(0, cars.size() - 1), number(0, places.size() - 1),
                        number(0, places.size() - 1), null));
                case "leave" -> steps.add(new Step("leave", number(0, places.size() - 1), 0, 0, null));
                case "swap" -> steps.add(new Step("swap", 0, 0, 0, null));
                default -> {
                    if (open == 6) {
                        throw new Fault(3, t.place);
                    }
                    int times = number(0, 30);
                    sign("[");
                    List<Step> body = steps(open + 1);
                    sign("]");
                    steps.add(new Step("again", times, 0, 0, body));
                }
            }
            sign(";");
        }
        return steps;
    }

    private int begun;
    private int done;

    private void run(List<Step> steps) {
        for (Step s : steps) {
            if (begun == 200) {
                return;
            }
            begun++;
            if (s.word.equals("again")) {
                for (int i = 0; i < s.a; i++) {
                    run(s.body);
                }
            } else if (step(s)) {
                done++;
            } else {
                refused++;
            }
        }
    }

    private boolean step(Step s) {
        switch (s.word) {
            case "park": {
                if (in(now.lanes, s.a) || room(now.lanes, s.b, 0) < cars.get(s.a).length) {
                    return false;
                }
                now.lanes.get(s.b).add(s.a);
                return true;
            }
            case "move": {
                List<Integer> from = now.lanes.get(s.b);
                if (from.isEmpty() || s.b == s.c) {
                    return false;
                }
                int car = from.get(from.size() - 1);
                if (!keys[s.a][car] || room(now.lanes, s.c, 0) < cars.get(car).length) {
                    return false;
                }
                int spent = secondsOf(car, s.a == car ? 1 : 0);
                from.remove(from.size() - 1);
                now.lanes.get(s.c).add(car);
                now.moved[car]++;
                now = new State(now.lanes, now.moved, now.seconds + spent);
                return true;
            }
            case "leave": {
                List<Integer> from = now.lanes.get(s.a);
                if (from.isEmpty()) {
                    return false;
                }
                from.remove(from.size() - 1);
                return true;
            }
            default:
                return swap(now.lanes);
        }
    }

    private boolean swap(List<List<Integer>> lanes) {
        List<Integer> out = new ArrayList<>();
        for (int i = 0; i < cars.size(); i++) {
            if (!in(lanes, i)) {
                out.add(i);
            }
        }
        out.sort((a, b) -> cars.get(a).hour != cars.get(b).hour ? cars.get(b).hour - cars.get(a).hour : a - b);
        boolean any = false;
        for (int car : out) {
            int best = -1;
            for (int l = 0; l < lanes.size(); l++) {
                if (best < 0 || room(lanes, l, 0) > room(lanes, best, 0)) {
                    best = l;
                }
            }
            if (best >= 0 && room(lanes, best, 0) >= cars.get(car).length) {
                lanes.get(best).add(car);
                any = true;
            }
        }
        return any;
    }

    int spots(int n) {
        needLength(n, 60);
        open(n);
        Map<Integer, Integer> told = new HashMap<>();
        try {
            while (!over()) {
                int lane = number(0, places.size() - 1);
                int at = peek().place;
                int place = number(0, places.get(lane) - 1);
                if (told.containsKey(10 * lane + place)) {
                    throw new Fault(2, at);
                }
                told.put(10 * lane + place, number(0, 1));
                sign(";");
            }
        } catch (Fault f) {
            faultPlace = f.place;
            return f.kind - 10;
        }
        faultPlace = -1;
        spots = told;
        return spots.size();
    }

    int fault() {
        return faultPlace;
    }

    int undo() {
        if (past.isEmpty()) {
            return -1;
        }
        now = past.remove(past.size() - 1);
        refused = 0;
        return past.size();
    }

    // ---- what is so

    private boolean in(List<List<Integer>> lanes, int car) {
        return laneOf(lanes, car) >= 0;
    }

    private int laneOf(List<List<Integer>> lanes, int car) {
        for (int l = 0; l < lanes.size(); l++) {
            if (lanes.get(l).contains(car)) {
                return l;
            }
        }
        return -1;
    }

    private int room(List<List<Integer>> lanes, int lane, int more) {
        int room = places.get(lane) + (lane == 0 ? more : 0);
        for (int car : lanes.get(lane)) {
            room -= cars.get(car).length;
        }
        return room;
    }

    private boolean leavesLater(int a, int b) {
        return cars.get(a).hour > cars.get(b).hour || cars.get(a).hour == cars.get(b).hour && a > b;
    }

    private int pairs(List<List<Integer>> lanes) {
        int pairs = 0;
        for (List<Integer> lane : lanes) {
            for (int i = 0; i < lane.size(); i++) {
                for (int j = i + 1; j < lane.size(); j++) {
                    if (leavesLater(lane.get(j), lane.get(i))) {
                        pairs++;
                    }
                }
            }
        }
        return pairs;
    }

    private int bits(List<Integer> list) {
        int bits = 0;
        for (int car : list) {
            bits |= 1 << car;
        }
        return bits;
    }

    private int inBits(List<List<Integer>> lanes) {
        int bits = 0;
        for (List<Integer> lane : lanes) {
            bits |= bits(lane);
        }
        return bits;
    }

    int told(int what) {
        int moves = Arrays.stream(now.moved).sum();
        switch (what) {
            case 0: return places.size();
            case 1: return cars.size();
            case 2: return inBits(now.lanes);
            case 3: return now.seconds;
            case 4: return moves;
            case 5: return pairs(now.lanes);
            case 6: return spots.size();
            case 7: return refused;
            case 8: {
                int sum = 0;
                for (int l = 0; l < places.size(); l++) {
                    sum += room(now.lanes, l, 0);
                }
                return sum;
            }
            case 9: return moves * cost;
            default: need(false); return 0;
        }
    }

    int lane(int lane, int what) {
        needLane(lane);
        List<Integer> row = now.lanes.get(lane);
        switch (what) {
            case 0: return places.get(lane);
            case 1: return room(now.lanes, lane, 0);
            case 2: return row.isEmpty() ? -1 : row.get(row.size() - 1);
            case 3: return bits(row);
            case 4: return row.isEmpty() ? -1 : row.get(0);
            default: need(false); return 0;
        }
    }

    private int firstPlace(int car) {
        int lane = laneOf(now.lanes, car);
        if (lane < 0) {
            return -1;
        }
        int place = 0;
        for (int other : now.lanes.get(lane)) {
            if (other == car) {
                return place;
            }
            place += cars.get(other).length;
        }
        return -1;
    }

    int car(int car, int what) {
        needCar(car);
        switch (what) {
            case 0: return cars.get(car).length;
            case 1: return cars.get(car).hour;
            case 2: return cars.get(car).tries;
            case 3: return laneOf(now.lanes, car);
            case 4: return firstPlace(car);
            case 5: return now.moved[car];
            case 6: {
                int bits = 0;
                for (int i = 0; i < cars.size(); i++) {
                    bits |= keys[car][i] ? 1 << i : 0;
                }
                return bits;
            }
            default: need(false); return 0;
        }
    }

    int on(int lane, int place) {
        needLane(lane);
        return standsOn(lane, place);
    }

    private int standsOn(int lane, int place) {
        for (int car : now.lanes.get(lane)) {
            int first = firstPlace(car);
            if (place == first || cars.get(car).length == 2 && place == first + 1) {
                return car;
            }
        }
        return -1;
    }

    private int secondsOf(int car, int own) {
        int lane = laneOf(now.lanes, car);
        Car c = cars.get(car);
        return by(c.length, c.tries, c.hour, car, Math.max(0, lane), lane < 0 ? 0 : now.lanes.get(lane).size(),
                now.moved[car], own);
    }

    private int by(int... f) {
        Map<String, Integer> facts = new HashMap<>();
        String[] names = {"length", "tries", "hour", "car", "lane", "cars", "moved", "own"};
        for (int i = 0; i < names.length; i++) {
            facts.put(names[i], f[i]);
        }
        int value = law == null ? f[0] * 10 + f[1] * 5 : law.value(facts);
        return value < 1 ? 1 : value > 99 ? 99 : value;
    }

    int seconds(int car, int own) {
        needCar(car);
        need(own == 0 || own == 1);
        return secondsOf(car, own);
    }

    int would(int length, int tries, int hour, int car, int lane, int cars, int moved, int own) {
        need((length == 1 || length == 2) && tries >= 0 && tries <= 9 && hour >= 0 && hour <= 99 && car >= 0 && car <= 5
                && lane >= 0 && lane <= 2 && cars >= 0 && cars <= 4 && moved >= 0 && moved <= 999 && (own == 0 || own == 1));
        return by(length, tries, hour, car, lane, cars, moved, own);
    }

    private List<Integer> aheadList(List<List<Integer>> lanes, int car) {
        int lane = laneOf(lanes, car);
        if (lane < 0) {
            return new ArrayList<>();
        }
        List<Integer> row = lanes.get(lane);
        return row.subList(row.indexOf(car) + 1, row.size());
    }

    int ahead(int car) {
        needCar(car);
        return bits(aheadList(now.lanes, car));
    }

    // ---- moves

    private List<List<Integer>> moved(List<List<Integer>> lanes, int from, int to, int more) {
        if (from == to || lanes.get(from).isEmpty()) {
            return null;
        }
        int car = lanes.get(from).get(lanes.get(from).size() - 1);
        if (room(lanes, to, more) < cars.get(car).length) {
            return null;
        }
        List<List<Integer>> then = copyOf(lanes);
        then.get(from).remove(then.get(from).size() - 1);
        then.get(to).add(car);
        return then;
    }

    /** Goal -1: all leave. */
    private List<List<Integer>> settled(List<List<Integer>> lanes, int goal) {
        if (goal >= 0) {
            return lanes;
        }
        List<List<Integer>> then = copyOf(lanes);
        while (true) {
            int next = goesNext(then);
            if (next < 0 || !aheadList(then, next).isEmpty()) {
                return then;
            }
            then.get(laneOf(then, next)).remove((Object) next);
        }
    }

    private int goesNext(List<List<Integer>> lanes) {
        int next = -1;
        for (int i = 0; i < cars.size(); i++) {
            if (in(lanes, i) && (next < 0 || leavesLater(next, i))) {
                next = i;
            }
        }
        return next;
    }

    private boolean reached(List<List<Integer>> lanes, int goal) {
        return goal < 0 ? inBits(lanes) == 0 : aheadList(lanes, goal).isEmpty();
    }

    private int distance(List<List<Integer>> start, int goal, int more) {
        List<List<Integer>> from = settled(start, goal);
        Map<List<List<Integer>>, Integer> met = new HashMap<>();
        ArrayDeque<List<List<Integer>>> queue = new ArrayDeque<>();
        met.put(from, 0);
        queue.add(from);
        while (!queue.isEmpty()) {
            List<List<Integer>> lanes = queue.remove();
            if (reached(lanes, goal)) {
                return met.get(lanes);
            }
            for (int a = 0; a < lanes.size(); a++) {
                for (int b = 0; b < lanes.size(); b++) {
                    List<List<Integer>> then = moved(lanes, a, b, more);
                    if (then != null) {
                        then = settled(then, goal);
                        if (!met.containsKey(then)) {
                            met.put(then, met.get(lanes) + 1);
                            queue.add(then);
                        }
                    }
                }
            }
        }
        return -1;
    }

    /** Each first move is tried, with all that can follow it. */
    private int firstMove(List<List<Integer>> start, int goal) {
        List<List<Integer>> from = settled(start, goal);
        int fewest = distance(start, goal, 0);
        for (int code = 0; code <= 22 && fewest > 0; code++) {
            if (code / 10 < places.size() && code % 10 < places.size()) {
                List<List<Integer>> then = moved(from, code / 10, code % 10, 0);
                if (then != null && distance(then, goal, 0) == fewest - 1) {
                    return code;
                }
            }
        }
        return -1;
    }

    int frees(int car, int what) {
        needCar(car);
        need(what == 0 || what == 1);
        if (!in(now.lanes, car)) {
            return -1;
        }
        return what == 0 ? distance(now.lanes, car, 0) : firstMove(now.lanes, car);
    }

    int morning(int what) {
        need(what == 0 || what == 1);
        int moves = distance(now.lanes, -1, 0);
        return what == 0 ? moves : moves == 0 ? -2 : firstMove(now.lanes, -1);
    }

    int corner(int car) {
        needCar(car);
        if (!in(now.lanes, car)) {
            return -2;
        }
        int with = distance(now.lanes, -1, 0);
        List<List<Integer>> without = copyOf(now.lanes);
        without.get(laneOf(without, car)).remove((Object) car);
        return with < 0 ? -1 : with - distance(without, -1, 0);
    }

    boolean goes(int car) {
        needCar(car);
        if (!in(now.lanes, car)) {
            return true;
        }
        List<List<Integer>> lanes = copyOf(now.lanes);
        List<Integer> ahead = new ArrayList<>(aheadList(lanes, car));
        int lane = laneOf(lanes, car);
        for (int i = ahead.size() - 1; i >= 0; i--) {
            if (!keys[car][ahead.get(i)]) {
                return false;
            }
            List<List<Integer>> then = null;
            for (int to = 0; to < lanes.size() && then == null; to++) {
                then = moved(lanes, lane, to, 0);
            }
            if (then == null) {
                return false;
            }
            lanes = then;
        }
        return true;
    }

    private int bestPairs;
    private int bestDigits;

    private void evenings(int bits, int car, List<List<Integer>> lanes, int digits) {
        if (car == cars.size()) {
            int pairs = pairs(lanes);
            if (bestPairs < 0 || pairs < bestPairs) {
                bestPairs = pairs;
                bestDigits = digits;
            }
            return;
        }
        if ((bits >> car & 1) == 0) {
            evenings(bits, car + 1, lanes, digits);
            return;
        }
        for (int l = 0; l < lanes.size(); l++) {
            if (room(lanes, l, 0) >= cars.get(car).length) {
                List<List<Integer>> then = copyOf(lanes);
                then.get(l).add(car);
                evenings(bits, car + 1, then, digits * 4 + l);
            }
        }
    }

    int evening(int bits, int what) {
        needBits(bits);
        need(what == 0 || what == 1);
        List<List<Integer>> empty = new ArrayList<>();
        for (int i = 0; i < places.size(); i++) {
            empty.add(new ArrayList<>());
        }
        bestPairs = -1;
        bestDigits = -1;
        evenings(bits, 0, empty, 0);
        return what == 0 ? bestPairs : bestDigits;
    }

    int sure(int car, int q, int part) {
        needCar(car);
        need(q >= 0 && q <= 16 && (part == 0 || part == 1));
        int k = aheadList(now.lanes, car).size();
        long above = Math.round(Math.pow(q, k));
        long below = Math.round(Math.pow(16, k));
        long common = below;
        while (above % common != 0 || below % common != 0) {
            common--;
        }
        return (int) ((part == 0 ? above : below) / common);
    }

    private List<Integer> sets() {
        List<Integer> sets = new ArrayList<>();
        for (int set = 0; set < 1 << cars.size(); set++) {
            boolean right = true;
            for (int place : spots.keySet()) {
                int car = standsOn(place / 10, place % 10);
                boolean oil = car >= 0 && (set >> car & 1) == 1;
                right &= oil == (spots.get(place) == 1);
            }
            if (right) {
                sets.add(set);
            }
        }
        return sets;
    }

    int leaks(int what) {
        need(what >= 0 && what <= 2);
        List<Integer> sets = sets();
        if (what == 0) {
            return sets.size();
        }
        if (sets.isEmpty()) {
            return what == 1 ? -1 : 0;
        }
        int all = sets.get(0);
        for (int set : sets) {
            all &= set;
        }
        return what == 1 ? sets.get(0) : all;
    }

    int look(int what) {
        need(what == 0 || what == 1);
        int best = -1;
        int bestLeft = -1;
        for (int l = 0; l < places.size(); l++) {
            for (int p = 0; p < places.get(l); p++) {
                if (spots.containsKey(10 * l + p)) {
                    continue;
                }
                int oily = 0;
                int dry = 0;
                for (int set : sets()) {
                    int car = standsOn(l, p);
                    if (car >= 0 && (set >> car & 1) == 1) {
                        oily++;
                    } else {
                        dry++;
                    }
                }
                if (best < 0 || Math.max(oily, dry) < bestLeft) {
                    best = 10 * l + p;
                    bestLeft = Math.max(oily, dry);
                }
            }
        }
        return what == 0 ? best : bestLeft;
    }

    int fronts(int k, int v, int w, int what) {
        need(k >= 0 && k <= 9 && v >= 0 && v <= 40 && w >= 0 && w <= 40 && what >= 0 && what <= 2);
        int[][] has = new int[k + 1][k + 1];
        for (int a = 0; a <= k; a++) {
            for (int b = 0; b <= k; b++) {
                has[a][b] = a == b ? 0 : a < b ? v : w - a;
            }
        }
        List<Integer> rests = new ArrayList<>();
        for (int a = 0; a <= k; a++) {
            for (int b = 0; b <= k; b++) {
                boolean rests1 = true;
                for (int c = 0; c <= k; c++) {
                    rests1 &= has[c][b] <= has[a][b] && has[c][a] <= has[b][a];
                }
                if (rests1) {
                    rests.add(10 * a + b);
                }
            }
        }
        if (what == 0) {
            return rests.size();
        }
        if (rests.isEmpty()) {
            return what == 1 ? -1 : 0;
        }
        int first = rests.get(0);
        return what == 1 ? first : has[first / 10][first % 10] + has[first % 10][first / 10];
    }

    int pays(int car, int bits, int n) {
        needCar(car);
        needBits(bits);
        need(n >= 0 && n <= 999);
        int answer = 0;
        for (int bound = 0; bound <= 4000; bound++) {
            int given = 0;
            for (int i = 0; i < cars.size(); i++) {
                given += (bits >> i & 1) == 0 ? 0 : Math.min(bound, now.moved[i]);
            }
            if (given <= n && (bits >> car & 1) == 1) {
                answer = Math.min(bound, now.moved[car]);
            }
        }
        return answer;
    }

    int spare(int m) {
        need(m >= 0 && m <= 20);
        for (int more = 0; more <= 4; more++) {
            int moves = distance(now.lanes, -1, more);
            if (moves >= 0 && moves <= m) {
                return more;
            }
        }
        return -1;
    }

    int next(int what) {
        need(what == 0 || what == 1);
        int next = goesNext(now.lanes);
        return next < 0 || what == 0 ? next : aheadList(now.lanes, next).size();
    }

    int most(int what) {
        need(what == 0 || what == 1);
        int most = Arrays.stream(now.moved).max().getAsInt();
        if (most == 0) {
            return -1;
        }
        int car = 0;
        while (now.moved[car] != most) {
            car++;
        }
        return what == 0 ? car : most;
    }

    private int seed;

    private int draw(int by) {
        seed = seed * 1103515245 + 12345;
        return ((seed & 0x7FFFFFFF) >> 16) % by;
    }

    private int[] daysBy(int first, int many, int q) {
        seed = first;
        List<List<Integer>> lanes = copyOf(now.lanes);
        int left = 0;
        int wasIll = 0;
        for (int day = 0; day < many; day++) {
            int ill = -1;
            if (draw(16) < q && !cars.isEmpty()) {
                ill = draw(cars.size());
                wasIll += in(lanes, ill) ? 1 : 0;
            }
            for (List<Integer> lane : lanes) {
                while (!lane.isEmpty() && lane.get(lane.size() - 1) != ill) {
                    lane.remove(lane.size() - 1);
                    left++;
                }
            }
            swap(lanes);
        }
        return new int[] {inBits(lanes), pairs(lanes), left, wasIll};
    }

    int days(int first, int many, int q, int what) {
        need(many >= 1 && many <= 60 && q >= 0 && q <= 16 && what >= 0 && what <= 3);
        return daysBy(first, many, q)[what];
    }

    int span(int first, int seeds, int many, int q, int what, int car) {
        need(seeds >= 1 && seeds <= 20 && many >= 1 && many <= 60 && q >= 0 && q <= 16 && what >= 0 && what <= 2
                && car >= 0 && car < cars.size());
        List<Integer> pairs = new ArrayList<>();
        int in = 0;
        for (int i = 0; i < seeds; i++) {
            int[] end = daysBy(first + i, many, q);
            pairs.add(end[1]);
            in += end[0] >> car & 1;
        }
        return what == 0 ? java.util.Collections.min(pairs) : what == 1 ? java.util.Collections.max(pairs) : in;
    }

    int image() {
        if (imageNow.size() == 3) {
            return -1;
        }
        imageNow.add(now.copy());
        List<State> copy = new ArrayList<>();
        for (State s : past) {
            copy.add(s.copy());
        }
        imagePast.add(copy);
        return imageNow.size();
    }

    int restore() {
        if (imageNow.isEmpty()) {
            return -1;
        }
        now = imageNow.remove(imageNow.size() - 1);
        past = imagePast.remove(imagePast.size() - 1);
        refused = 0;
        return imageNow.size();
    }

    int status(int what) {
        return what == 0 ? noSuch : what == 1 ? illegal : -1;
    }

    int count(int what) {
        return what == 0 ? imageNow.size() : what == 1 ? tape.length() : what == 2 ? past.size() : -1;
    }
}
