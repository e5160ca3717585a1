import java.util.ArrayList;
import java.util.Collections;
import java.util.List;
import java.util.Random;

/** Crowded yards, in which ways are long or there are none: the moves as the plain model finds them. */
public final class SearchTest {
    private static final int YARDS = 12000;

    public static void main(String[] args) {
        Random random = new Random(20261118);
        for (int i = 0; i < YARDS; i++) {
            StringBuilder yard = new StringBuilder();
            String work = crowd(random, yard);
            compare(yard.toString(), work);
        }
        Check.end("SearchTest");
    }

    private static String crowd(Random random, StringBuilder yard) {
        int[] room = new int[2 + random.nextInt(2)];
        for (int lane = 0; lane < room.length; lane++) {
            room[lane] = random.nextBoolean() ? 4 : 1 + random.nextInt(4);
            yard.append("lane ").append(room[lane]).append(";");
        }
        int longOnes = random.nextInt(4);
        List<Integer> cars = new ArrayList<>();
        int[] length = new int[6];
        for (int car = 0; car < length.length; car++) {
            length[car] = random.nextInt(4) < longOnes ? 2 : 1;
            yard.append("car ").append(length[car]).append(" ").append(random.nextInt(20)).append(" 0;");
            cars.add(car);
        }
        Collections.shuffle(cars, random);
        StringBuilder work = new StringBuilder();
        for (int car : cars) {
            int lane = random.nextInt(room.length);
            if (room[lane] < length[car]) {
                lane = (lane + 1) % room.length;
            }
            if (room[lane] >= length[car]) {
                room[lane] -= length[car];
                work.append("park ").append(car).append(" ").append(lane).append(";");
            }
        }
        return work.toString();
    }

    private static void compare(String yard, String work) {
        BlockedCars cars = Check.with(yard, work);
        PlainModel model = new PlainModel();
        tell(model, yard);
        model.yard(yard.length());
        tell(model, work);
        model.work(work.length());
        String where = yard + " " + work + " ";
        Check.due(where + "morning(0)", cars.morning(0), model.morning(0));
        Check.due(where + "morning(1)", cars.morning(1), model.morning(1));
        for (int car = 0; car < 6; car++) {
            Check.due(where + "frees(" + car + ", 0)", cars.frees(car, 0), model.frees(car, 0));
            Check.due(where + "frees(" + car + ", 1)", cars.frees(car, 1), model.frees(car, 1));
            Check.due(where + "corner(" + car + ")", cars.corner(car), model.corner(car));
        }
        for (int m = 1; m <= 5; m += 2) {
            Check.due(where + "spare(" + m + ")", cars.spare(m), model.spare(m));
        }
    }

    private static void tell(PlainModel model, String text) {
        int[] w = Check.words(text);
        for (int i = 0; i < w.length; i += 5) {
            model.feed(w[i], w[i + 1], w[i + 2], w[i + 3], w[i + 4]);
        }
    }
}
