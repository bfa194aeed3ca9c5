/** The edges of promises 9 to 13, a test for each: lots, bounds of a mix, the first of alike ones, pouring. */
public final class MetalEdgesTest {
    private static final int MIN = Integer.MIN_VALUE;
    private static final int MAX = Integer.MAX_VALUE;
    private static final Due due = new Due();

    public static void main(String[] args) {
        lots();
        mixNumbers();
        mixBounds();
        mixUnits();
        mixPrices();
        mixFirstOfAlike();
        mixIsKept();
        mixed();
        pour();
        left();
        due.end();
    }

    private static PieceMoulds of(int[]... lots) {
        PieceMoulds x = new PieceMoulds();
        for (int[] l : lots) {
            x.lot(l[0], l[1], l[2], l[3]);
        }
        return x;
    }

    private static int[] lot(int tin, int lead, int price, int units) {
        return new int[] {tin, lead, price, units};
    }

    /** The UNITS of each LOT in the latest MIX. */
    private static String row(PieceMoulds x) {
        StringBuilder row = new StringBuilder();
        for (int i = 0; i < x.count(2); i++) {
            row.append(i > 0 ? " " : "").append(x.mixed(i));
        }
        return row.toString();
    }

    private static void lots() {
        lotNumber("tin", 0, 1000);
        lotNumber("lead", 1, 1000);
        lotNumber("price", 2, 1000);
        lotNumber("units", 3, 40);
        lotTogetherAThousand();
        lotsAreSix();
    }

    private static void lotNumber(String name, int which, int most) {
        int[] wrong = {-1, most + 1, MIN, MAX};
        for (int number : wrong) {
            int[] l = {0, 0, 0, 0};
            l[which] = number;
            PieceMoulds x = new PieceMoulds();
            due.is("P9 " + name + " " + number, x.lot(l[0], l[1], l[2], l[3]), -1);
            due.is("P9 no LOT", x.count(2), 0);
            due.is("P9 none is left", x.left(0), -1);
        }
        for (int number : new int[] {0, 1, most - 1, most}) {
            int[] l = {0, 0, 0, 0};
            l[which] = number;
            due.is("P9 " + name + " " + number, new PieceMoulds().lot(l[0], l[1], l[2], l[3]), 0);
        }
    }

    private static void lotTogetherAThousand() {
        PieceMoulds x = new PieceMoulds();
        due.is("P9 1000 together", x.lot(400, 600, 0, 0), 0);
        due.is("P9 1001 together", x.lot(401, 600, 0, 0), -1);
        due.is("P9 1001 together, lead more", x.lot(400, 601, 0, 0), -1);
        due.is("P9 a sum that wraps around", x.lot(MAX, MAX, 0, 0), -1);
        due.is("P9 a sum that wraps around to 0", x.lot(MIN, MIN, 0, 0), -1);
        due.is("P9 too much and less than nothing", x.lot(1001, -1, 0, 0), -1);
    }

    private static void lotsAreSix() {
        PieceMoulds x = new PieceMoulds();
        for (int i = 0; i < 6; i++) {
            due.is("P9 LOT " + i, x.lot(i, i, i, i), i);
        }
        due.is("P9 a seventh", x.lot(0, 0, 0, 0), -5);
        due.is("P9 a number ahead of the room", x.lot(0, 0, 0, 41), -1);
        due.is("P9 six stay", x.count(2), 6);
        for (int i = 0; i < 6; i++) {
            due.is("P9 UNITS of LOT " + i, x.left(i), i);
        }
    }

    private static void mixNumbers() {
        int[][] wrong = {{0, 0, 0, 0}, {41, 0, 0, 0}, {-1, 0, 0, 0}, {MIN, 0, 0, 0}, {MAX, 0, 0, 0},
            {1, 1, 0, 0}, {1, 1000, 999, 0}, {1, -1, 0, 0}, {1, -1, -1, 0}, {1, MIN, 0, 0}, {1, MAX, MIN, 0},
            {1, 0, 1001, 0}, {1, 1001, 1001, 0}, {1, 0, MAX, 0}, {1, 1001, 1000, 0},
            {1, 0, 0, -1}, {1, 0, 0, 1001}, {1, 0, 0, MIN}, {1, 0, 0, MAX}};
        for (int[] m : wrong) {
            String name = "P10 mix " + m[0] + ", " + m[1] + ", " + m[2] + ", " + m[3];
            PieceMoulds x = of(lot(0, 0, 1, 40));
            due.is(name, x.mix(m[0], m[1], m[2], m[3]), -1);
            due.is(name + " is none", x.mixed(-1), -1);
            due.is(name + " ahead of -6", new PieceMoulds().mix(m[0], m[1], m[2], m[3]), -1);
        }
        int[][] right = {{1, 0, 0, 0}, {40, 0, 0, 0}, {1, 0, 1000, 1000}, {40, 0, 1000, 0}};
        for (int[] m : right) {
            due.is("P10 mix of " + m[0], of(lot(0, 0, 1, 40)).mix(m[0], m[1], m[2], m[3]), m[0]);
        }
        due.is("P10 from 1000 to 1000", of(lot(1000, 0, 1, 1)).mix(1, 1000, 1000, 0), 1);
        due.is("P10 no LOTS", new PieceMoulds().mix(1, 0, 1000, 1000), -6);
    }

    private static void mixBounds() {
        PieceMoulds one = of(lot(100, 50, 1, 40));
        due.is("P10 tin just so", one.mix(40, 100, 100, 50), 40);
        due.is("P10 tin too little by one", one.mix(40, 101, 1000, 50), -6);
        due.is("P10 tin too much by one", one.mix(40, 0, 99, 50), -6);
        due.is("P10 lead too much by one", one.mix(40, 100, 100, 49), -6);
        due.is("P10 one UNIT, just so", one.mix(1, 100, 100, 50), 1);
        due.is("P10 one UNIT, too little", one.mix(1, 101, 101, 50), -6);
        due.is("P10 one UNIT, too much", one.mix(1, 99, 99, 50), -6);
        due.is("P10 one UNIT, too much lead", one.mix(1, 100, 100, 49), -6);
        PieceMoulds third = of(lot(200, 0, 1, 1), lot(0, 0, 1, 2));
        due.is("P10 200 of 3000 is more than 66", third.mix(3, 0, 66, 0), -6);
        due.is("P10 and at most 67", third.mix(3, 0, 67, 0), 3);
        due.is("P10 and less than 67", third.mix(3, 67, 1000, 0), -6);
        due.is("P10 and at least 66", third.mix(3, 66, 1000, 0), 3);
        PieceMoulds lead = of(lot(0, 200, 1, 1), lot(0, 0, 1, 2));
        due.is("P10 lead: 200 of 3000 is more than 66", lead.mix(3, 0, 0, 66), -6);
        due.is("P10 lead: and at most 67", lead.mix(3, 0, 0, 67), 3);
        PieceMoulds near = of(lot(100, 0, 1, 40), lot(101, 0, 2, 40));
        due.is("P10 a slope of one", near.mix(40, 100, 101, 0), 40);
        due.is("P10 tin at least 101", near.mix(40, 101, 101, 0), 80);
        due.is("P10 tin at most 100", near.mix(40, 0, 100, 0), 40);
        PieceMoulds far = of(lot(1000, 0, 1000, 40), lot(0, 1000, 1000, 40));
        due.is("P10 tin of 500", far.mix(40, 500, 500, 500), 40000);
        due.is("P10 lead of 499", far.mix(40, 500, 500, 499), -6);
        due.is("P10 an odd half", far.mix(39, 500, 500, 1000), -6);
        PieceMoulds alike = of(lot(100, 50, 1, 3), lot(100, 50, 1, 3));
        due.is("P10 two alike, lead less by one thousandth", alike.mix(1, 0, 1000, 49), -6);
        due.is("P10 two alike, tin less by one thousandth", alike.mix(1, 0, 99, 50), -6);
        due.is("P10 two alike, tin more by one thousandth", alike.mix(1, 101, 1000, 50), -6);
    }

    private static void mixUnits() {
        PieceMoulds few = of(lot(0, 0, 1, 3), lot(0, 0, 1, 0), lot(0, 0, 1, 4));
        due.is("P10 all that there are", few.mix(7, 0, 0, 0), 7);
        due.same("P10 all of each", row(few), "3 0 4");
        due.is("P10 one more than there are", few.mix(8, 0, 0, 0), -6);
        due.is("P10 a LOT without UNITS", of(lot(0, 0, 1, 0)).mix(1, 0, 0, 0), -6);
        for (int only = 0; only < 6; only++) {
            PieceMoulds x = new PieceMoulds();
            for (int i = 0; i < 6; i++) {
                x.lot(i == only ? 500 : 100, 0, i == only ? 1000 : 1, 40);
            }
            due.is("P10 only LOT " + only + " has so much tin", x.mix(40, 500, 500, 0), 40000);
            due.is("P10 all of it", x.mixed(only), 40);
            due.is("P10 one UNIT of LOT " + only, x.mix(40, 110, 110, 0), 1039);
            due.is("P10 is one", x.mixed(only), 1);
        }
        PieceMoulds six = of(lot(0, 0, 1, 1), lot(0, 0, 2, 2), lot(0, 0, 3, 3), lot(0, 0, 4, 4), lot(0, 0, 5, 5), lot(0, 0, 6, 6));
        due.is("P10 all of six", six.mix(21, 0, 0, 0), 91);
        due.same("P10 each", row(six), "1 2 3 4 5 6");
        due.is("P10 all but one", six.mix(20, 0, 0, 0), 85);
        due.same("P10 each but the dearest", row(six), "1 2 3 4 5 5");
        due.is("P10 one of six", six.mix(1, 0, 0, 0), 1);
        due.same("P10 the cheapest", row(six), "1 0 0 0 0 0");
    }

    private static void mixPrices() {
        PieceMoulds free = of(lot(0, 0, 0, 40));
        due.is("P10 a PRICE of 0", free.mix(40, 0, 0, 0), 0);
        due.is("P10 it is a MIX", free.mixed(-1), 40);
        due.is("P10 it is not REFUSED", free.status(), 0);
        due.is("P10 the highest PRICE", of(lot(0, 0, 1000, 40)).mix(40, 0, 0, 0), 40000);
        PieceMoulds cheap = of(lot(0, 0, 7, 40), lot(0, 0, 6, 40));
        due.is("P10 less by one", cheap.mix(40, 0, 0, 0), 240);
        due.same("P10 the cheaper alone", row(cheap), "0 40");
        PieceMoulds turned = of(lot(0, 0, 6, 40), lot(0, 0, 7, 40));
        due.is("P10 less by one, the first", turned.mix(40, 0, 0, 0), 240);
        due.same("P10 the cheaper first", row(turned), "40 0");
    }

    private static void mixFirstOfAlike() {
        PieceMoulds six = new PieceMoulds();
        for (int i = 0; i < 6; i++) {
            six.lot(0, 0, 5, 8);
        }
        due.is("P10 alike", six.mix(40, 0, 0, 0), 200);
        due.same("P10 the first row", row(six), "0 8 8 8 8 8");
        due.is("P10 of 20", six.mix(20, 0, 0, 0), 100);
        due.same("P10 the first row of 20", row(six), "0 0 0 4 8 8");
        due.is("P10 of 1", six.mix(1, 0, 0, 0), 5);
        due.same("P10 the first row of 1", row(six), "0 0 0 0 0 1");
        PieceMoulds line = of(lot(0, 0, 1, 40), lot(100, 0, 2, 40), lot(200, 0, 3, 40));
        due.is("P10 on a line", line.mix(6, 100, 100, 0), 12);
        due.same("P10 none of the first", row(line), "0 6 0");
        PieceMoulds tied = of(lot(0, 0, 2, 40), lot(100, 0, 2, 40));
        due.is("P10 of two alike in PRICE", tied.mix(10, 20, 80, 0), 20);
        due.same("P10 the least of the first that has not too much tin", row(tied), "2 8");
        PieceMoulds four = of(lot(0, 0, 3, 40), lot(100, 0, 1, 40), lot(200, 0, 5, 40), lot(50, 0, 2, 40));
        due.is("P10 of four", four.mix(4, 50, 75, 0), 6);
        due.same("P10 less of the first is ahead of a later one", row(four), "0 2 0 2");
    }

    private static void mixIsKept() {
        PieceMoulds x = of(lot(100, 0, 1, 10), lot(0, 0, 2, 10));
        due.is("P10 the first", x.mix(4, 100, 100, 0), 4);
        due.is("P10 there is none", x.mix(4, 101, 200, 0), -6);
        due.same("P10 the latest stays", row(x), "4 0");
        due.is("P10 REFUSED", x.mix(41, 0, 0, 0), -1);
        due.same("P10 the latest stays again", row(x), "4 0");
        due.is("P10 another", x.mix(3, 0, 0, 0), 6);
        due.same("P10 nothing of the one ahead", row(x), "0 3");
        due.is("P10 no UNITS are taken", x.left(0) * 100 + x.left(1), 1010);
    }

    private static void mixed() {
        PieceMoulds x = of(lot(0, 0, 1, 40));
        due.is("P11 without a MIX", x.mixed(0), -1);
        due.is("P11 in all, without", x.mixed(-1), -1);
        x.mix(1, 0, 0, 0);
        due.is("P11 one UNIT", x.mixed(0), 1);
        due.is("P11 one UNIT in all", x.mixed(-1), 1);
        x.mix(40, 0, 0, 0);
        due.is("P11 forty", x.mixed(0), 40);
        due.is("P11 forty in all", x.mixed(-1), 40);
        for (int none : new int[] {1, 2, 5, 6, -2, -3, MIN, MAX}) {
            due.is("P11 no LOT " + none, x.mixed(none), -1);
        }
        x.lot(0, 0, 1, 40);
        due.is("P11 a LOT that came behind the MIX", x.mixed(1), 0);
    }

    private static void pour() {
        pourWithout();
        pourOneUnit();
        pourAll();
        pourTheLatest();
    }

    private static void pourWithout() {
        PieceMoulds x = of(lot(0, 0, 1, 5));
        due.is("P12 without", x.pour(), -6);
        x.mix(6, 0, 0, 0);
        due.is("P12 there was none", x.pour(), -6);
        due.is("P12 nothing is taken", x.left(0), 5);
    }

    private static void pourOneUnit() {
        PieceMoulds x = of(lot(0, 0, 1, 5));
        x.mix(1, 0, 0, 0);
        due.is("P12 one UNIT", x.pour(), 1);
        due.is("P12 is taken", x.left(0), 4);
        due.is("P12 no MIX any more", x.mixed(-1), -1);
        due.is("P12 of no LOT", x.mixed(0), -1);
        due.is("P12 once alone", x.pour(), -6);
        due.is("P12 no more is taken", x.left(0), 4);
    }

    private static void pourAll() {
        PieceMoulds x = of(lot(0, 0, 1, 20), lot(0, 0, 1, 20));
        x.mix(40, 0, 0, 0);
        due.is("P12 forty", x.pour(), 40);
        due.is("P12 none is left of the first", x.left(0), 0);
        due.is("P12 nor of the second", x.left(1), 0);
        due.is("P12 the LOTS are there", x.count(2), 2);
        due.is("P10 none can be mixed", x.mix(1, 0, 0, 0), -6);
        due.is("P9 their places are not free", x.lot(0, 0, 1, 1), 2);
    }

    private static void pourTheLatest() {
        PieceMoulds x = of(lot(100, 0, 1, 10), lot(0, 0, 1, 10));
        x.mix(7, 100, 100, 0);
        x.mix(3, 0, 0, 0);
        x.mix(3, 900, 900, 0);
        due.is("P12 the latest that there was", x.pour(), 3);
        due.is("P12 none of the one ahead", x.left(0), 10);
        due.is("P12 of the latest", x.left(1), 7);
        x.mix(7, 0, 0, 0);
        due.is("P12 the rest", x.pour(), 7);
        due.is("P12 none is left", x.left(1), 0);
        due.is("P10 the other has too much tin", x.mix(1, 0, 0, 0), -6);
    }

    private static void left() {
        PieceMoulds x = of(lot(0, 0, 1, 0), lot(0, 0, 1, 40));
        due.is("P13 none", x.left(0), 0);
        due.is("P13 forty", x.left(1), 40);
        for (int none : new int[] {-1, -2, 2, 5, 6, MIN, MAX}) {
            due.is("P13 no LOT " + none, x.left(none), -1);
        }
    }
}
