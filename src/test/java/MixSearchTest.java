import java.util.Random;

/**
 * The search for the cheapest mix against the model's plain one. Its numbers come from small sets, so that bounds
 * are met exactly, prices are alike and lots run out far more often than by chance.
 */
public final class MixSearchTest {
    private static final int[] METAL = {0, 1, 50, 99, 100, 101, 200, 333, 500};
    private static final int[] PRICES = {0, 1, 1, 2, 3, 999, 1000};
    private static final int[] UNITS = {0, 1, 2, 3, 5, 40};

    public static void main(String[] args) {
        Due due = new Due();
        for (int run = 0; run < 4000; run++) {
            Random random = new Random(run);
            PieceMoulds x = new PieceMoulds();
            Model model = new Model();
            int lots = 1 + random.nextInt(6);
            for (int i = 0; i < lots; i++) {
                int tin = one(random, METAL), lead = one(random, METAL), price = one(random, PRICES), units = one(random, UNITS);
                due.is("lot", x.lot(tin, lead, price, units), model.lot(tin, lead, price, units));
            }
            for (int i = 0; i < 4; i++) {
                mix(due, random, x, model, lots < 4 ? 40 : lots < 6 ? 12 : 9);
            }
        }
        fullMixes(due);
        due.end();
    }

    /** All six lots and up to all 40 units; the model tries each of a million rows, so these are few. */
    private static void fullMixes(Due due) {
        for (int run = 0; run < 40; run++) {
            Random random = new Random(run);
            PieceMoulds x = new PieceMoulds();
            Model model = new Model();
            for (int i = 0; i < 6; i++) {
                int tin = random.nextInt(400), lead = random.nextInt(400), price = random.nextInt(1001);
                int units = 20 + random.nextInt(21);
                due.is("lot", x.lot(tin, lead, price, units), model.lot(tin, lead, price, units));
            }
            int a = random.nextInt(300), b = a + random.nextInt(100), c = 100 + random.nextInt(300);
            int n = 40 - run % 4;
            String name = "mix(" + n + ", " + a + ", " + b + ", " + c + ") of six lots";
            due.is(name, x.mix(n, a, b, c), model.mix(n, a, b, c));
            for (int i = -1; i < 6; i++) {
                due.is(name + ", mixed(" + i + ")", x.mixed(i), model.mixed(i));
            }
        }
    }

    private static int one(Random random, int[] of) {
        return of[random.nextInt(of.length)];
    }

    private static void mix(Due due, Random random, PieceMoulds x, Model model, int most) {
        int n = 1 + random.nextInt(most);
        int a = one(random, METAL);
        int b = random.nextInt(3) == 0 ? a : Math.max(a, one(random, METAL));
        int c = random.nextInt(3) == 0 ? 1000 : one(random, METAL);
        String name = "mix(" + n + ", " + a + ", " + b + ", " + c + ")";
        due.is(name, x.mix(n, a, b, c), model.mix(n, a, b, c));
        for (int i = -1; i < 6; i++) {
            due.is(name + ", mixed(" + i + ")", x.mixed(i), model.mixed(i));
        }
        if (random.nextInt(3) == 0) {
            due.is(name + ", pour()", x.pour(), model.pour());
        }
    }
}
