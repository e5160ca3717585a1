import java.util.NoSuchElementException;

/** What the tests share: calls that are due to answer or to throw, counted, and texts put on the TAPE. */
final class Check {
    static final long NO_SUCH = Long.MIN_VALUE;
    static final long ILLEGAL = Long.MIN_VALUE + 1;

    private static int right = 0;
    private static int wrong = 0;

    private Check() {
    }

    interface Call {
        long answer();
    }

    static long outcome(Call call) {
        try {
            return call.answer();
        } catch (NoSuchElementException e) {
            return NO_SUCH;
        } catch (IllegalArgumentException e) {
            return ILLEGAL;
        }
    }

    static void due(String what, long got, long want) {
        if (got == want) {
            right++;
            return;
        }
        wrong++;
        if (wrong <= 40) {
            System.out.println(what + " answered " + named(got) + ", due is " + named(want));
        }
    }

    static void due(int promise, String sentence, long got, long want) {
        due("Promise " + promise + ": " + sentence, got, want);
    }

    static void illegal(int promise, String sentence, Call call) {
        due(promise, sentence, outcome(call), ILLEGAL);
    }

    static void noSuch(int promise, String sentence, Call call) {
        due(promise, sentence, outcome(call), NO_SUCH);
    }

    static void illegal(String what, Call call) {
        due(what, outcome(call), ILLEGAL);
    }

    static void noSuch(String what, Call call) {
        due(what, outcome(call), NO_SUCH);
    }

    static String named(long value) {
        return value == NO_SUCH ? "NoSuchElementException" : value == ILLEGAL ? "IllegalArgumentException" : "" + value;
    }

    static int[] words(String text) {
        int[] words = new int[(text.length() + 19) / 20 * 5];
        for (int i = 0; i < text.length(); i++) {
            words[i / 4] |= (text.charAt(i) & 255) << (24 - i % 4 * 8);
        }
        return words;
    }

    static void put(BlockedCars cars, String text) {
        int[] words = words(text);
        for (int i = 0; i < words.length; i += 5) {
            cars.feed(words[i], words[i + 1], words[i + 2], words[i + 3], words[i + 4]);
        }
    }

    /** By the kind of text: y, l, w or s. */
    static int read(BlockedCars cars, char kind, int n) {
        switch (kind) {
            case 'y': return cars.yard(n);
            case 'l': return cars.law(n);
            case 'w': return cars.work(n);
            default: return cars.spots(n);
        }
    }

    static int yard(BlockedCars cars, String text) {
        put(cars, text);
        return cars.yard(text.length());
    }

    static int law(BlockedCars cars, String text) {
        put(cars, text);
        return cars.law(text.length());
    }

    static int work(BlockedCars cars, String text) {
        put(cars, text);
        return cars.work(text.length());
    }

    static int spots(BlockedCars cars, String text) {
        put(cars, text);
        return cars.spots(text.length());
    }

    static BlockedCars with(String yard, String... works) {
        BlockedCars cars = new BlockedCars();
        due("yard " + yard + " is sound", yard(cars, yard) >= 0 ? 1 : 0, 1);
        for (String work : works) {
            due("work " + work + " is sound", work(cars, work) >= 0 ? 1 : 0, 1);
        }
        return cars;
    }

    static void end(String name) {
        System.out.println(name + ": " + right + " right, " + wrong + " wrong");
        if (wrong != 0) {
            System.exit(1);
        }
    }
}
