/** Promises 24 and 25, and calls that mix all parts: count, status, and no call ever throws. */
public final class BenchTest {
    private static final Due due = new Due();
    private static final int[] NUMBERS = {0, 1, -1, 2, 3, 7, 8, 10, 17, 40, 300, 1000, -2, -1000,
        Integer.MAX_VALUE, Integer.MIN_VALUE, Integer.MAX_VALUE - 1, Integer.MIN_VALUE + 1};

    public static void main(String[] args) {
        count();
        statusOfEach();
        statusOfOthers();
        twoObjects();
        nothingThrows();
        due.end();
    }

    private static void count() {
        PieceMoulds x = new PieceMoulds();
        x.size(3, 11);
        x.lot(0, 0, 0, 0);
        Due.feedText(x, "air 1;air 2");
        x.rules();
        x.vessel(1);
        x.vessel(2);
        x.vessel(3);
        x.tell(0, 0, 0);
        x.tell(0, 0, 0);
        x.tell(0, 0, 0);
        x.tell(0, 0, 0);
        x.feed(0, 0, 0, 0, 0);
        int[] want = {3, 11, 1, 2, 3, 4, 20};
        for (int what = 0; what < want.length; what++) {
            due.is("count(" + what + ")", x.count(what), want[what]);
        }
        due.is("count(7)", x.count(7), -1);
        due.is("count(-1)", x.count(-1), -1);
        due.is("count(MIN)", x.count(Integer.MIN_VALUE), -1);
    }

    private static void statusOfEach() {
        PieceMoulds x = new PieceMoulds();
        due.is("ahead of any", x.status(), 0);
        told(x, "size", x.size(1, 1), -1, -1);
        told(x, "size", x.size(3, 3), 0, 0);
        told(x, "draw", x.draw(0, 0, 3, 3, 0), -2, -2);
        told(x, "draw", x.draw(0, 0, 0, 0, 3), 1, 0);
        told(x, "repair", x.repair(0, 0), -3, -3);
        told(x, "draw", x.draw(1, 0, 1, 2, 2), 3, 0);
        told(x, "repair", x.repair(3, 0), -2, -2);
        told(x, "repair", x.repair(2, 0), 1, 0);
        told(x, "lot", x.lot(-1, 0, 0, 0), -1, -1);
        told(x, "lot", x.lot(0, 0, 1, 5), 0, 0);
        told(x, "mix", x.mix(6, 0, 0, 0), -6, -6);
        told(x, "mix", x.mix(5, 0, 0, 0), 5, 0);
        told(x, "mix", x.mix(0, 0, 0, 0), -1, -1);
        told(x, "pour", x.pour(), 5, 0);
        told(x, "pour", x.pour(), -6, -6);
        told(x, "rules", x.rules(), 0, 0);
        x.feed(0, 0, 0, 0, 0);
        told(x, "rules", x.rules(), -6, -6);
        told(x, "vessel", x.vessel(1), 0, 0);
        told(x, "vessel", x.vessel(-1), -1, -1);
        told(x, "tell", x.tell(0, 0, 0), 1, 0);
        told(x, "tell", x.tell(1, 0, 0), -2, -2);
    }

    private static void told(PieceMoulds x, String call, int got, int want, int status) {
        due.is(call, got, want);
        due.is("status of " + call, x.status(), status);
        due.is("status asked twice", x.status(), status);
    }

    /** Calls that are not named by status() leave it, whatever they answer. */
    private static void statusOfOthers() {
        PieceMoulds x = new PieceMoulds();
        for (int round = 0; round < 2; round++) {
            int status = round == 0 ? 0 : -3;
            x.cell(9, 9, 9);
            x.wall(9, 9);
            x.many(9);
            x.off(9, 9);
            x.mixed(9);
            x.left(9);
            x.end(400);
            x.end(0);
            x.feed(0, 0, 0, 0, 0);
            x.fault();
            x.broken(-1);
            x.broken(0);
            x.like(9, 9);
            x.of(9, 9);
            x.by(9, 9);
            x.count(9);
            due.is("status stays", x.status(), status);
            x.repair(0, 0);
        }
    }

    private static void twoObjects() {
        PieceMoulds x = new PieceMoulds();
        PieceMoulds y = new PieceMoulds();
        x.size(2, 2);
        x.lot(1, 1, 1, 1);
        x.vessel(1);
        due.is("another object's W", y.count(0), 8);
        due.is("another object's LOTS", y.count(2), 0);
        due.is("another object's VESSELS", y.count(4), 0);
    }

    private static void nothingThrows() {
        for (int a = 0; a < NUMBERS.length; a++) {
            for (int b = 0; b < NUMBERS.length; b++) {
                try {
                    callAll(new PieceMoulds(), a, b);
                    due.is("calls with " + NUMBERS[a] + ", " + NUMBERS[b], 0, 0);
                } catch (RuntimeException | StackOverflowError thrown) {
                    due.fails("calls with " + NUMBERS[a] + ", " + NUMBERS[b] + " threw " + thrown);
                }
            }
        }
    }

    private static void callAll(PieceMoulds x, int i, int k) {
        int a = NUMBERS[i];
        int b = NUMBERS[k];
        x.vessel(12345678);
        x.lot(100, 100, 5, 40);
        for (int round = 0; round < 16; round++) {
            int c = NUMBERS[(i + k + round) % NUMBERS.length];
            x.feed(a, b, c, a, b);
            x.size(a, b);
            x.draw(a, b, c, c, a);
            x.draw(0, 0, 1, 1, c);
            x.cell(a, b, c);
            x.repair(a, b);
            x.wall(a, b);
            x.many(a);
            x.off(a, b);
            x.lot(a, b, c, a);
            x.mix(a, b, c, a);
            x.mix(3, a, b, c);
            x.mixed(a);
            x.left(a);
            x.end(round < 14 ? c : -1);
            x.broken(a);
            x.vessel(a);
            x.like(a, b);
            x.tell(a, b, c);
            x.of(a, b);
            x.by(a, b);
            x.count(a);
            x.status();
        }
        x.pour();
        x.rules();
        x.fault();
    }
}
