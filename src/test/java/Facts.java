import java.util.ArrayList;
import java.util.LinkedHashMap;
import java.util.List;
import java.util.Map;

/** All that an object answers, by the call: so that two objects can be compared, of which one was refused something. */
final class Facts {
    private final BlockedCars cars;
    private final Map<String, Long> answers = new LinkedHashMap<>();

    private Facts(BlockedCars cars) {
        this.cars = cars;
    }

    /** What can be asked, and then, as it goes by being used, what lies behind: WORKS to undo, IMAGES, the TAPE. */
    static Facts of(BlockedCars cars) {
        Facts facts = new Facts(cars);
        facts.askAll();
        facts.askLanes();
        facts.askCars();
        facts.useUp();
        return facts;
    }

    /** Two objects that are due to be alike, but for the answers that are named. */
    static void same(int promise, String sentence, BlockedCars due, BlockedCars got, String... but) {
        Map<String, Long> want = of(due).answers;
        Map<String, Long> have = of(got).answers;
        List<String> other = new ArrayList<>();
        List<String> names = new ArrayList<>(want.keySet());
        names.addAll(have.keySet());
        for (String name : names) {
            Long w = want.get(name);
            Long h = have.get(name);
            boolean isAlike = w != null && w.equals(h);
            if (!isAlike && !List.of(but).contains(name) && !other.contains(name)) {
                other.add(name);
            }
        }
        String first = other.isEmpty() ? "" : " (" + other.get(0) + ": " + have.get(other.get(0)) + " for " + want.get(other.get(0)) + ")";
        Check.due(promise, sentence + first, other.size(), 0);
    }

    private void ask(String call, Check.Call answer) {
        answers.put(call, Check.outcome(answer));
    }

    private void askAll() {
        ask("fault()", cars::fault);
        for (int i = 0; i <= 9; i++) {
            int what = i;
            ask("told(" + what + ")", () -> cars.told(what));
        }
        for (int i = 0; i <= 2; i++) {
            int what = i;
            ask("count(" + what + ")", () -> cars.count(what));
            ask("leaks(" + what + ")", () -> cars.leaks(what));
        }
        int all = (1 << cars.told(1)) - 1;
        for (int i = 0; i <= 1; i++) {
            int what = i;
            ask("status(" + what + ")", () -> cars.status(what));
            ask("morning(" + what + ")", () -> cars.morning(what));
            ask("next(" + what + ")", () -> cars.next(what));
            ask("most(" + what + ")", () -> cars.most(what));
            ask("look(" + what + ")", () -> cars.look(what));
            ask("evening(all, " + what + ")", () -> cars.evening(all, what));
        }
        for (int i = 0; i <= 3; i++) {
            int what = i;
            ask("days(5, 3, 4, " + what + ")", () -> cars.days(5, 3, 4, what));
        }
        ask("spare(1)", () -> cars.spare(1));
        ask("would(2, 9, 99, 5, 2, 4, 999, 1)", () -> cars.would(2, 9, 99, 5, 2, 4, 999, 1));
    }

    private void askLanes() {
        for (int l = 0; l < cars.told(0); l++) {
            int lane = l;
            for (int i = 0; i <= 4; i++) {
                int what = i;
                ask("lane(" + lane + ", " + what + ")", () -> cars.lane(lane, what));
                ask("on(" + lane + ", " + what + ")", () -> cars.on(lane, what));
            }
        }
    }

    private void askCars() {
        int all = (1 << cars.told(1)) - 1;
        for (int c = 0; c < cars.told(1); c++) {
            int car = c;
            for (int i = 0; i <= 6; i++) {
                int what = i;
                ask("car(" + car + ", " + what + ")", () -> cars.car(car, what));
            }
            for (int i = 0; i <= 1; i++) {
                int what = i;
                ask("seconds(" + car + ", " + what + ")", () -> cars.seconds(car, what));
                ask("frees(" + car + ", " + what + ")", () -> cars.frees(car, what));
                ask("sure(" + car + ", 7, " + what + ")", () -> cars.sure(car, 7, what));
            }
            ask("ahead(" + car + ")", () -> cars.ahead(car));
            ask("corner(" + car + ")", () -> cars.corner(car));
            ask("goes(" + car + ")", () -> cars.goes(car) ? 1 : 0);
            ask("pays(" + car + ", all, 3)", () -> cars.pays(car, all, 3));
        }
    }

    private void useUp() {
        undoAll("now");
        for (int left = cars.count(0); left > 0; left--) {
            ask("restore() of " + left, cars::restore);
            undoAll("image " + left);
        }
        ask("the TAPE as a yard", () -> cars.yard(cars.count(1)));
        ask("its fault", cars::fault);
        ask("its lanes", () -> cars.told(0));
    }

    private void undoAll(String where) {
        for (int left = cars.count(2); left >= 0; left--) {
            ask(where + ", cars in by work " + left, () -> cars.told(2));
            ask(where + ", seconds by work " + left, () -> cars.told(3));
            ask(where + ", undo of work " + left, cars::undo);
        }
    }
}
