/** Promises 19 to 23: vessels, their likeness, what is told of them, and workshops by marks. */
public final class VesselsTest {
    private static final int MIN = Integer.MIN_VALUE;
    private static final int MAX = Integer.MAX_VALUE;
    private static final Due due = new Due();

    public static void main(String[] args) {
        vessel();
        like();
        tell();
        of();
        by();
        byFractions();
        due.end();
    }

    private static void vessel() {
        PieceMoulds x = new PieceMoulds();
        due.is("vessel(-1)", x.vessel(-1), -1);
        due.is("vessel(MIN)", x.vessel(MIN), -1);
        due.is("vessel(100000000)", x.vessel(100000000), -1);
        due.is("vessel(MAX)", x.vessel(MAX), -1);
        for (int i = 0; i < 40; i++) {
            due.is("vessel " + i, x.vessel(i == 0 ? 99999999 : i == 1 ? 0 : i), i);
        }
        due.is("the 41st", x.vessel(5), -5);
        due.is("a wrong 41st", x.vessel(-5), -1);
        due.is("VESSELS", x.count(4), 40);
        due.is("likeness of the last", x.like(39, 39), 2);
    }

    private static void like() {
        PieceMoulds x = new PieceMoulds();
        x.vessel(11111111);
        x.vessel(11112222);
        x.vessel(22222222);
        x.vessel(90000001);
        x.vessel(10000000);
        due.is("all alike", x.like(0, 0), 8);
        due.is("half", x.like(0, 1), 0);
        due.is("all unlike", x.like(0, 2), -8);
        due.is("first and last known", x.like(0, 3), 0);
        due.is("the last alone", x.like(3, 4), -1);
        due.is("either way", x.like(4, 0) - x.like(0, 4), 0);
        due.is("no 5", x.like(0, 5), -1000);
        due.is("no -1", x.like(-1, 0), -1000);
        due.is("far", x.like(MIN, MAX), -1000);
    }

    private static void tell() {
        PieceMoulds x = new PieceMoulds();
        due.is("no VESSEL", x.tell(0, 0, 0), -2);
        due.is("the WORKSHOP is seen before the VESSEL", x.tell(0, 8, 0), -1);
        due.is("the YEAR is seen before the VESSEL", x.tell(0, 0, 3001), -1);
        x.vessel(1);
        due.is("WORKSHOP 8", x.tell(0, 8, 0), -1);
        due.is("WORKSHOP -2", x.tell(0, -2, 0), -1);
        due.is("YEAR -1", x.tell(0, 0, -1), -1);
        due.is("YEAR 3001", x.tell(0, 0, 3001), -1);
        due.is("VESSEL -1", x.tell(-1, 0, 0), -2);
        due.is("far", x.tell(MAX, MAX, MIN), -1);
        due.is("none is TOLD", x.count(5), 0);
        due.is("edges", x.tell(0, 7, 3000), 1);
        due.is("NONE", x.tell(0, -1, 0), 2);
        for (int i = 3; i <= 150; i++) {
            due.is("told " + i, x.tell(0, 3, 100), i);
        }
        due.is("the 151st", x.tell(0, 3, 100), -5);
        due.is("one of no VESSEL", x.tell(1, 3, 100), -2);
        due.is("a wrong one", x.tell(0, 8, 100), -1);
        due.is("TOLD", x.count(5), 150);
    }

    private static void of() {
        PieceMoulds x = new PieceMoulds();
        due.is("no VESSEL", x.of(0, 0), -2);
        x.vessel(1);
        x.vessel(2);
        due.is("never told", x.of(0, 3000), -1);
        x.tell(0, 4, 100);
        x.tell(0, 2, 50);
        due.is("ahead of both", x.of(0, 49), -1);
        due.is("known at 50", x.of(0, 50), 2);
        due.is("told last, though known earlier", x.of(0, 100), 2);
        x.tell(0, 5, 100);
        due.is("99", x.of(0, 99), 2);
        due.is("100", x.of(0, 100), 5);
        x.tell(0, -1, 70);
        due.is("60", x.of(0, 60), 2);
        due.is("70: of none", x.of(0, 70), -1);
        due.is("100: of none", x.of(0, 100), -1);
        due.is("the other", x.of(1, 100), -1);
        due.is("YEAR -1", x.of(0, -1), -2);
        due.is("YEAR 3001", x.of(0, 3001), -2);
        due.is("VESSEL 2", x.of(2, 0), -2);
        due.is("VESSEL -1", x.of(-1, 0), -2);
        due.is("far", x.of(MIN, MAX), -2);
    }

    private static void by() {
        PieceMoulds x = new PieceMoulds();
        due.is("no VESSEL", x.by(0, 0), -2);
        x.vessel(11111111);
        x.vessel(11111112);
        x.vessel(11111122);
        due.is("no WORKSHOPS", x.by(0, 3000), -1);
        x.tell(0, 6, 0);
        due.is("its own does not count", x.by(0, 3000), -1);
        due.is("another's does", x.by(1, 3000), 6);
        x.tell(2, 1, 10);
        due.is("as known before", x.by(0, 9), -1);
        due.is("as known then", x.by(0, 10), 1);
        due.is("6 and 6: the lower", x.by(1, 10), 1);
        x.tell(1, 6, 10);
        due.is("nearer", x.by(0, 10), 6);
        x.tell(1, -1, 20);
        due.is("of none again", x.by(0, 20), 1);
        due.is("YEAR -1", x.by(0, -1), -2);
        due.is("YEAR 3001", x.by(0, 3001), -2);
        due.is("VESSEL 3", x.by(3, 0), -2);
        due.is("VESSEL -1", x.by(-1, 0), -2);
    }

    /** Means that whole numbers could not tell apart, below nothing too. */
    private static void byFractions() {
        PieceMoulds x = new PieceMoulds();
        x.vessel(11111111);
        x.vessel(222);
        x.vessel(2222);
        x.vessel(222);
        x.vessel(222);
        x.vessel(2222);
        x.tell(1, 3, 0);
        x.tell(2, 3, 0);
        due.is("less than nothing is better than none", x.by(0, 0), 3);
        x.tell(3, 5, 0);
        x.tell(4, 5, 0);
        x.tell(5, 5, 0);
        due.is("-10/3 is above -7/2", x.by(0, 0), 5);
        x.vessel(0);
        x.tell(6, 7, 0);
        due.is("nothing known is above both", x.by(0, 0), 7);
        x.tell(6, 0, 1);
        due.is("0 by the next year", x.by(0, 1), 0);
        PieceMoulds y = new PieceMoulds();
        y.vessel(11111111);
        y.vessel(111);
        y.vessel(11);
        y.vessel(1111);
        y.tell(1, 4, 0);
        y.tell(2, 2, 0);
        y.tell(3, 2, 0);
        due.is("3/1 and 6/2 are alike: the lower", y.by(0, 0), 2);
    }
}
