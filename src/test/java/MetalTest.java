/** Promises 9 to 13: lots, the cheapest mix, and what is poured. */
public final class MetalTest {
    private static final int MIN = Integer.MIN_VALUE;
    private static final int MAX = Integer.MAX_VALUE;
    private static final Due due = new Due();

    public static void main(String[] args) {
        lot();
        mixNumbers();
        mixLeast();
        mixFirstOfAlike();
        mixLarge();
        mixedAndPour();
        pourIsNotForTheMould();
        due.end();
    }

    private static void lot() {
        PieceMoulds x = new PieceMoulds();
        int[][] wrong = {{-1, 0, 0, 0}, {0, -1, 0, 0}, {1001, 0, 0, 0}, {0, 1001, 0, 0}, {500, 501, 0, 0},
            {0, 0, -1, 0}, {0, 0, 1001, 0}, {0, 0, 0, -1}, {0, 0, 0, 41}, {MAX, MAX, 0, 0}, {MIN, MIN, 0, 0},
            {MAX, 2, 0, 0}, {0, 0, MIN, 0}, {0, 0, 0, MAX}};
        for (int[] l : wrong) {
            due.is("lot wrong", x.lot(l[0], l[1], l[2], l[3]), -1);
        }
        due.is("LOTS", x.count(2), 0);
        due.is("lot(0, 0, 0, 0)", x.lot(0, 0, 0, 0), 0);
        due.is("lot(500, 500, 1000, 40)", x.lot(500, 500, 1000, 40), 1);
        due.is("lot(1000, 0, 1, 1)", x.lot(1000, 0, 1, 1), 2);
        due.is("lot(0, 1000, 1, 1)", x.lot(0, 1000, 1, 1), 3);
        due.is("fifth", x.lot(1, 1, 1, 1), 4);
        due.is("sixth", x.lot(1, 1, 1, 1), 5);
        due.is("seventh", x.lot(1, 1, 1, 1), -5);
        due.is("a wrong seventh", x.lot(1, 1, 1, 41), -1);
        due.is("LOTS", x.count(2), 6);
        due.is("left(0)", x.left(0), 0);
        due.is("left(1)", x.left(1), 40);
        due.is("left(5)", x.left(5), 1);
        due.is("left(6)", x.left(6), -1);
        due.is("left(-1)", x.left(-1), -1);
        due.is("left(MIN)", x.left(MIN), -1);
    }

    private static void mixNumbers() {
        PieceMoulds x = new PieceMoulds();
        due.is("no LOTS", x.mix(1, 0, 1000, 1000), -6);
        x.lot(100, 100, 7, 40);
        int[][] wrong = {{0, 0, 1, 1}, {41, 0, 1, 1}, {-1, 0, 1, 1}, {1, 2, 1, 1}, {1, -1, 1, 1}, {1, 0, 1001, 1},
            {1, 1001, 1001, 1}, {1, 0, 1, 1001}, {1, 0, 1, -1}, {MAX, 0, 1, 1}, {1, MIN, MAX, 1}, {1, 0, 1, MIN}};
        for (int[] m : wrong) {
            due.is("mix wrong", x.mix(m[0], m[1], m[2], m[3]), -1);
        }
        due.is("no MIX by these", x.mixed(-1), -1);
        due.is("exact bounds", x.mix(40, 100, 100, 100), 280);
        due.is("tin too low", x.mix(2, 101, 1000, 1000), -6);
        due.is("the latest stays", x.mixed(0), 40);
        due.is("tin too high", x.mix(2, 0, 99, 1000), -6);
        due.is("lead too high", x.mix(2, 0, 1000, 99), -6);
        due.is("status", x.status(), -6);
        due.is("a wrong one leaves it, too", x.mix(0, 0, 0, 0), -1);
        due.is("the latest stays", x.mixed(-1), 40);
        PieceMoulds few = new PieceMoulds();
        few.lot(0, 0, 1, 3);
        few.lot(0, 0, 1, 4);
        due.is("as many as there are", few.mix(7, 0, 0, 0), 7);
        due.is("more than there are", few.mix(8, 0, 0, 0), -6);
        PieceMoulds alike = new PieceMoulds();
        alike.lot(100, 50, 1, 3);
        alike.lot(100, 50, 2, 3);
        due.is("alike lots, tin too low", alike.mix(2, 101, 200, 50), -6);
        due.is("alike lots, tin too high", alike.mix(2, 0, 99, 50), -6);
        due.is("alike lots, too much lead", alike.mix(2, 0, 200, 49), -6);
        due.is("alike lots, just so", alike.mix(4, 100, 100, 50), 5);
    }

    private static void mixLeast() {
        PieceMoulds x = new PieceMoulds();
        x.lot(0, 0, 10, 40);
        x.lot(300, 0, 100, 40);
        x.lot(150, 150, 20, 40);
        due.is("the cheap one has too much lead", x.mix(10, 90, 110, 50), 300);
        due.is("copper", x.mixed(0), 6);
        due.is("tin", x.mixed(1), 2);
        due.is("leaded", x.mixed(2), 2);
        due.is("lead does not matter", x.mix(10, 90, 110, 1000), 160);
        due.is("copper", x.mixed(0), 4);
        due.is("leaded", x.mixed(2), 6);
        due.is("free of tin", x.mix(3, 0, 0, 0), 30);
        due.is("all tin", x.mix(3, 300, 1000, 0), 300);
        PieceMoulds free = new PieceMoulds();
        free.lot(10, 0, 0, 5);
        due.is("a PRICE of 0", free.mix(5, 0, 10, 0), 0);
        due.is("it is a MIX", free.mixed(0), 5);
        PieceMoulds dear = new PieceMoulds();
        dear.lot(10, 0, 1000, 40);
        due.is("the highest PRICE", dear.mix(40, 10, 10, 0), 40000);
    }

    private static void mixFirstOfAlike() {
        PieceMoulds x = new PieceMoulds();
        x.lot(100, 0, 5, 3);
        x.lot(100, 0, 5, 3);
        x.lot(100, 0, 5, 3);
        due.is("alike", x.mix(4, 100, 100, 0), 20);
        due.is("least of the first", x.mixed(0), 0);
        due.is("then least of the second", x.mixed(1), 1);
        due.is("the rest", x.mixed(2), 3);
        PieceMoulds y = new PieceMoulds();
        y.lot(0, 0, 1, 40);
        y.lot(100, 0, 2, 40);
        y.lot(200, 0, 3, 40);
        due.is("on a line", y.mix(6, 100, 100, 0), 12);
        due.is("first row", y.mixed(0) * 100 + y.mixed(1) * 10 + y.mixed(2), 60);
        due.is("a range", y.mix(6, 50, 150, 0), 9);
        due.is("first row of it", y.mixed(0) * 100 + y.mixed(1) * 10 + y.mixed(2), 330);
        y.lot(50, 0, 1, 1);
        due.is("a fourth", y.mix(6, 50, 150, 0), 9);
        due.is("first row with it", y.mixed(0) * 100 + y.mixed(1) * 10 + y.mixed(2), 230);
        due.is("one of it", y.mixed(3), 1);
    }

    /** Six full lots, forty units and narrow bounds: held against a plain search of all rows. */
    private static void mixLarge() {
        int[][] lots = {{391, 204, 400}, {373, 347, 153}, {257, 455, 282}, {416, 31, 139}, {127, 409, 565}, {298, 327, 934}};
        PieceMoulds x = new PieceMoulds();
        Model model = new Model();
        for (int[] l : lots) {
            due.is("lot", x.lot(l[0], l[1], l[2], 40), model.lot(l[0], l[1], l[2], 40));
        }
        int[][] asked = {{298, 298, 363}, {200, 210, 1000}, {400, 416, 60}, {127, 128, 500}, {0, 1000, 250}};
        for (int[] m : asked) {
            due.is("mix of 40", x.mix(40, m[0], m[1], m[2]), model.mix(40, m[0], m[1], m[2]));
            for (int i = -1; i < 6; i++) {
                due.is("mixed " + i, x.mixed(i), model.mixed(i));
            }
        }
    }

    private static void mixedAndPour() {
        PieceMoulds x = new PieceMoulds();
        due.is("pour without", x.pour(), -6);
        due.is("status", x.status(), -6);
        x.lot(0, 0, 1, 10);
        due.is("mix", x.mix(6, 0, 0, 0), 6);
        due.is("mixed(1) without the LOT", x.mixed(1), -1);
        x.lot(0, 0, 1, 10);
        due.is("a LOT that came later has no part", x.mixed(1), 0);
        due.is("mixed(-2)", x.mixed(-2), -1);
        due.is("mixed(6)", x.mixed(6), -1);
        due.is("mixed(MAX)", x.mixed(MAX), -1);
        due.is("in all", x.mixed(-1), 6);
        due.is("nothing is taken yet", x.left(0), 10);
        due.is("pour", x.pour(), 6);
        due.is("status", x.status(), 0);
        due.is("taken", x.left(0), 4);
        due.is("not of the other", x.left(1), 10);
        due.is("no MIX any more", x.mixed(-1), -1);
        due.is("of no LOT", x.mixed(0), -1);
        due.is("pour again", x.pour(), -6);
        due.is("nothing more is taken", x.left(0), 4);
        due.is("what is left counts", x.mix(14, 0, 0, 0), 14);
        due.is("pour", x.pour(), 14);
        due.is("all gone", x.left(0) + x.left(1), 0);
        due.is("mix of nothing", x.mix(1, 0, 0, 0), -6);
    }

    /** What the MIX needs, not what the mould needs, must be there. */
    private static void pourIsNotForTheMould() {
        PieceMoulds x = new PieceMoulds();
        x.draw(0, 0, 7, 7, 3);
        x.lot(0, 0, 1, 10);
        x.mix(2, 0, 0, 0);
        due.is("CAST", x.many(0), 64);
        due.is("pour", x.pour(), 2);
    }
}
