import java.util.Random;

/** Random runs of calls, right ones and wrong ones, answered by the class as by the plain model. */
public final class ModelTest {
    private static final int RUNS = 1500;
    private static final int CALLS = 150;

    private final Random random;
    private final BlockedCars cars = new BlockedCars();
    private final PlainModel model = new PlainModel();
    private final StringBuilder story = new StringBuilder();
    private int lanes = 0;
    private int carCount = 0;

    private ModelTest(long seed) {
        random = new Random(seed);
        story.append("seed ").append(seed);
    }

    public static void main(String[] args) {
        for (int run = 0; run < RUNS; run++) {
            new ModelTest(run).run();
        }
        Check.end("ModelTest");
    }

    private void run() {
        if (random.nextInt(20) != 0) {
            say("yard", yardText());
        }
        for (int call = 0; call < CALLS; call++) {
            if (random.nextInt(6) == 0) {
                tellSomething();
            } else {
                ask();
            }
        }
    }

    private void same(String what, Check.Call one, Check.Call other) {
        story.append(", ").append(what);
        long want = Check.outcome(other);
        Check.due(story.length() > 3000 ? "seed.. " + what : story.toString(), Check.outcome(one), want);
    }

    private int below(int n) {
        return random.nextInt(n);
    }

    /** Mostly 0 to most, at times a bit outside or far outside. */
    private int about(int most) {
        int kind = below(30);
        if (kind == 0) {
            return -1 - below(3);
        }
        if (kind == 1) {
            return most + 1 + below(3);
        }
        return kind == 2 && below(4) == 0 ? random.nextInt() : below(Math.max(0, most) + 1);
    }

    private void tellSomething() {
        switch (below(16)) {
            case 0 -> say("yard", yardText());
            case 1, 2 -> say("law", lawText(3));
            case 3, 4 -> say("spots", spotsText());
            case 5, 6 -> same("undo", cars::undo, model::undo);
            case 7 -> same("image", cars::image, model::image);
            case 8 -> same("restore", cars::restore, model::restore);
            default -> say("work", workText());
        }
    }

    private void say(String kind, String sound) {
        String text = below(8) == 0 ? spoilt(sound) : sound;
        int most = kind.equals("yard") ? 600 : kind.equals("spots") ? 60 : 150;
        if (text.length() > most && below(4) != 0) {
            return;
        }
        int[] w = Check.words(text);
        for (int i = 0; i < w.length; i += 5) {
            int k = i;
            same("feed", () -> cars.feed(w[k], w[k + 1], w[k + 2], w[k + 3], w[k + 4]),
                    () -> model.feed(w[k], w[k + 1], w[k + 2], w[k + 3], w[k + 4]));
        }
        int n = below(60) == 0 ? text.length() + below(60) : text.length();
        story.append(" '").append(text).append("'");
        switch (kind) {
            case "yard" -> same("yard(" + n + ")", () -> cars.yard(n), () -> model.yard(n));
            case "law" -> same("law(" + n + ")", () -> cars.law(n), () -> model.law(n));
            case "work" -> same("work(" + n + ")", () -> cars.work(n), () -> model.work(n));
            default -> same("spots(" + n + ")", () -> cars.spots(n), () -> model.spots(n));
        }
        same("fault", cars::fault, model::fault);
        lanes = model.told(0);
        carCount = model.told(1);
    }

    private String spoilt(String text) {
        StringBuilder s = new StringBuilder(text);
        String signs = " 0123456789abcdefghijklmnopqrstuvwxyz;[](),+-*/%A\t" + (char) 0 + (char) 200;
        for (int times = below(3); times >= 0; times--) {
            int at = below(s.length() + 1);
            switch (below(4)) {
                case 0 -> s.insert(at, signs.charAt(below(signs.length())));
                case 1 -> s.setLength(at);
                case 2 -> s.delete(at, Math.min(s.length(), at + 1 + below(3)));
                default -> s.insert(at, s.substring(at, Math.min(s.length(), at + below(12))));
            }
        }
        return s.toString();
    }

    private String blanks() {
        return " ".repeat(below(9) == 0 ? 2 : 1);
    }

    private String maybe() {
        return below(5) == 0 ? " " : "";
    }

    private String yardText() {
        StringBuilder s = new StringBuilder();
        int laneCount = 1 + below(3);
        int many = below(7);
        for (int i = 0; i < laneCount; i++) {
            s.append("lane").append(blanks()).append(below(3) == 0 ? 1 + below(4) : 2 + below(3)).append(maybe()).append(";");
        }
        int hours = below(2) == 0 ? 4 : 100;
        boolean small = below(2) == 0;
        for (int i = 0; i < many; i++) {
            s.append(maybe()).append("car").append(blanks()).append(small || below(3) != 0 ? 1 : 2).append(blanks())
                    .append(below(hours)).append(blanks()).append(below(10)).append(";");
        }
        for (int i = below(12); i > 0 && many > 0; i--) {
            s.append("key ").append(below(many)).append(" ").append(below(many)).append(";");
        }
        for (int i = below(3); i > 0; i--) {
            s.append("cost ").append(below(41)).append(";");
        }
        if (below(40) == 0) {
            s.append("cost 1;".repeat(Math.max(0, 58 + below(5) - laneCount - many)));
        }
        return s.append(maybe()).toString();
    }

    private String lawText(int depth) {
        StringBuilder s = new StringBuilder(lawProduct(depth));
        for (int i = below(3); i > 0; i--) {
            s.append(maybe()).append(below(2) == 0 ? "+" : "-").append(maybe()).append(lawProduct(depth));
        }
        return s.toString();
    }

    private String lawProduct(int depth) {
        StringBuilder s = new StringBuilder(lawUnit(depth));
        for (int i = below(3) * below(2); i > 0; i--) {
            s.append(maybe()).append("*/%".charAt(below(3))).append(maybe()).append(lawUnit(depth));
        }
        return s.toString();
    }

    private String lawUnit(int depth) {
        String[] facts = {"length", "tries", "hour", "car", "lane", "cars", "moved", "own"};
        int kind = below(10);
        if (kind > 7 && below(20) == 0) {
            int open = 5 + below(3);
            return "(".repeat(open) + "own" + ")".repeat(open);
        }
        if (kind > 7 && depth > 0) {
            return "(" + lawText(depth - 1) + ")";
        }
        if (kind > 6 && depth > 0) {
            return (below(2) == 0 ? "least" : "most") + maybe() + "[" + lawText(depth - 1) + "," + lawText(depth - 1) + "]";
        }
        return kind < 3 ? "" + below(below(5) == 0 ? 1000 : 12) : facts[below(8)];
    }

    private String workText() {
        StringBuilder s = new StringBuilder();
        for (int i = 1 + below(12); i > 0; i--) {
            s.append(step(2));
        }
        return s.length() > 150 && below(10) != 0 ? s.substring(0, s.lastIndexOf(";", 149) + 1) : s.toString();
    }

    private String step(int depth) {
        int car = below(Math.max(1, carCount));
        int lane = below(Math.max(1, lanes));
        int kind = below(20);
        if (kind < 9) {
            return maybe() + "park " + car + " " + lane + ";";
        }
        if (kind < 15) {
            return "move " + car + " " + lane + " " + below(Math.max(1, lanes)) + ";";
        }
        if (kind < 17) {
            return "leave " + lane + maybe() + ";";
        }
        if (kind == 17 || depth == 0) {
            return "swap;";
        }
        StringBuilder s = new StringBuilder("again " + below(31) + " [");
        for (int i = below(4); i > 0; i--) {
            s.append(step(depth - 1));
        }
        return s.append("];").toString();
    }

    private String spotsText() {
        StringBuilder s = new StringBuilder();
        for (int i = below(5); i > 0; i--) {
            s.append(maybe()).append(below(Math.max(1, lanes))).append(" ").append(below(3)).append(" ").append(below(2)).append(";");
        }
        return s.toString();
    }

    private void ask() {
        int a = about(carCount - 1);
        int lane = about(lanes - 1);
        int bits = below(40) == 0 ? random.nextInt() : below(50) == 0 ? 1 << carCount : below(1 << carCount);
        int seed = below(2) == 0 ? random.nextInt() : below(100);
        int v = about(40);
        int w = about(40);
        int k = about(9);
        int q = about(16);
        int many = 1 + about(below(5) == 0 ? 59 : 6);
        int seeds = 1 + about(below(5) == 0 ? 19 : 4);
        int w1 = about(1);
        int w2 = about(2);
        int w3 = about(3);
        int n = below(20) == 0 ? about(999) : about(20);
        switch (below(26)) {
            case 0 -> { int x = about(9); same("told(" + x + ")", () -> cars.told(x), () -> model.told(x)); }
            case 1 -> { int x = about(4); same("lane(" + lane + "," + x + ")", () -> cars.lane(lane, x), () -> model.lane(lane, x)); }
            case 2 -> { int x = about(6); same("car(" + a + "," + x + ")", () -> cars.car(a, x), () -> model.car(a, x)); }
            case 3 -> same("on(" + lane + "," + w3 + ")", () -> cars.on(lane, w3), () -> model.on(lane, w3));
            case 4 -> same("seconds(" + a + "," + w1 + ")", () -> cars.seconds(a, w1), () -> model.seconds(a, w1));
            case 5 -> askWould();
            case 6 -> same("ahead(" + a + ")", () -> cars.ahead(a), () -> model.ahead(a));
            case 7, 8 -> same("frees(" + a + "," + w1 + ")", () -> cars.frees(a, w1), () -> model.frees(a, w1));
            case 9, 10 -> same("morning(" + w1 + ")", () -> cars.morning(w1), () -> model.morning(w1));
            case 11 -> same("corner(" + a + ")", () -> cars.corner(a), () -> model.corner(a));
            case 12 -> same("goes(" + a + ")", () -> cars.goes(a) ? 1 : 0, () -> model.goes(a) ? 1 : 0);
            case 13 -> same("evening(" + bits + "," + w1 + ")", () -> cars.evening(bits, w1), () -> model.evening(bits, w1));
            case 14 -> same("sure(" + a + "," + q + "," + w1 + ")", () -> cars.sure(a, q, w1), () -> model.sure(a, q, w1));
            case 15 -> same("leaks(" + w2 + ")", () -> cars.leaks(w2), () -> model.leaks(w2));
            case 16 -> same("look(" + w1 + ")", () -> cars.look(w1), () -> model.look(w1));
            case 17 -> same("fronts(" + k + "," + v + "," + w + "," + w2 + ")",
                    () -> cars.fronts(k, v, w, w2), () -> model.fronts(k, v, w, w2));
            case 18 -> same("pays(" + a + "," + bits + "," + n + ")", () -> cars.pays(a, bits, n), () -> model.pays(a, bits, n));
            case 19 -> { int m = below(3) == 0 ? about(20) : below(3); same("spare(" + m + ")", () -> cars.spare(m), () -> model.spare(m)); }
            case 20 -> same("next(" + w1 + ")", () -> cars.next(w1), () -> model.next(w1));
            case 21 -> same("most(" + w1 + ")", () -> cars.most(w1), () -> model.most(w1));
            case 22 -> same("days(" + seed + "," + many + "," + q + "," + w3 + ")",
                    () -> cars.days(seed, many, q, w3), () -> model.days(seed, many, q, w3));
            case 23 -> same("span(" + seed + "," + seeds + "," + many + "," + q + "," + w2 + "," + a + ")",
                    () -> cars.span(seed, seeds, many, q, w2, a), () -> model.span(seed, seeds, many, q, w2, a));
            case 24 -> same("status(" + w2 + ")", () -> cars.status(w2), () -> model.status(w2));
            default -> same("count(" + w3 + ")", () -> cars.count(w3), () -> model.count(w3));
        }
    }

    private void askWould() {
        int[] f = {1 + about(1), about(9), about(99), about(5), about(2), about(4), about(999), about(1)};
        same("would", () -> cars.would(f[0], f[1], f[2], f[3], f[4], f[5], f[6], f[7]),
                () -> model.would(f[0], f[1], f[2], f[3], f[4], f[5], f[6], f[7]));
    }
}
