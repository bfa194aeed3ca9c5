/** The edges of promises 19 to 23, a test for each: marks, likeness, years, what was told, means that are near. */
public final class VesselsEdgesTest {
    private static final int MIN = Integer.MIN_VALUE;
    private static final int MAX = Integer.MAX_VALUE;
    private static final int[] NO_YEARS = {-1, -2, 3001, 3002, MIN, MAX};
    private static final Due due = new Due();

    public static void main(String[] args) {
        vesselMarks();
        vesselsAreForty();
        likeEachMark();
        likeLeastAndMost();
        likeWithout();
        tellWorkshops();
        tellYears();
        tellVessels();
        tellFirstRefusal();
        toldAre150();
        ofTheFirstAndLastYear();
        ofToldLast();
        ofNone();
        ofWithout();
        byNobody();
        byItself();
        byTheLowerOfAlike();
        byFractions();
        byLessThanNothing();
        byTheYear();
        byAllOthers();
        byWithout();
        due.end();
    }

    private static PieceMoulds of(int... marks) {
        PieceMoulds x = new PieceMoulds();
        for (int one : marks) {
            x.vessel(one);
        }
        return x;
    }

    private static void vesselMarks() {
        PieceMoulds x = new PieceMoulds();
        for (int wrong : new int[] {-1, 100000000, 100000001, MIN, MAX}) {
            due.is("P19 marks " + wrong, x.vessel(wrong), -1);
            due.is("P19 no VESSEL", x.count(4), 0);
        }
        due.is("P19 all unknown", x.vessel(0), 0);
        due.is("P19 all nine", x.vessel(99999999), 1);
        due.is("P20 nothing is known", x.like(0, 0), 0);
        due.is("P20 all is known", x.like(1, 1), 8);
    }

    private static void vesselsAreForty() {
        PieceMoulds x = new PieceMoulds();
        for (int i = 0; i < 40; i++) {
            due.is("P19 VESSEL " + i, x.vessel(11111111), i);
        }
        due.is("P19 no room", x.vessel(0), -5);
        due.is("P19 a number ahead of the room", x.vessel(-1), -1);
        due.is("P19 too large ahead of the room", x.vessel(100000000), -1);
        due.is("P19 forty stay", x.count(4), 40);
        due.is("P20 the last", x.like(39, 0), 8);
        due.is("P20 no more", x.like(40, 0), -1000);
    }

    /** One MARK of the eight at a time, known of both, of one, or unlike. */
    private static void likeEachMark() {
        int place = 1;
        for (int i = 0; i < 8; i++) {
            PieceMoulds x = of(place, place, 9 * place, 0, 11111111 - place);
            due.is("P20 alike at " + i, x.like(0, 1), 1);
            due.is("P20 unlike at " + i, x.like(0, 2), -1);
            due.is("P20 unlike at " + i + ", turned", x.like(2, 0), -1);
            due.is("P20 unknown of one at " + i, x.like(0, 3), 0);
            due.is("P20 others known at " + i, x.like(0, 4), 0);
            place *= 10;
        }
    }

    private static void likeLeastAndMost() {
        PieceMoulds x = of(12345678, 12345678, 23456789, 87654321, 0);
        due.is("P20 the most", x.like(0, 1), 8);
        due.is("P20 with itself", x.like(0, 0), 8);
        due.is("P20 the least", x.like(0, 2), -8);
        due.is("P20 turned around", x.like(0, 3), -8);
        due.is("P20 nothing known", x.like(0, 4), 0);
        due.is("P20 nothing known of both", x.like(4, 4), 0);
        PieceMoulds y = of(11110000, 1111, 11111111, 11112222);
        due.is("P20 nothing known of both", y.like(0, 1), 0);
        due.is("P20 half alike, half unlike", y.like(2, 3), 0);
        due.is("P20 half known", y.like(0, 2), 4);
    }

    private static void likeWithout() {
        PieceMoulds x = of(1, 1);
        for (int none : new int[] {-1, 2, 39, 40, MIN, MAX}) {
            due.is("P20 no VESSEL " + none, x.like(none, 0), -1000);
            due.is("P20 no other VESSEL " + none, x.like(0, none), -1000);
            due.is("P20 neither " + none, x.like(none, none), -1000);
        }
    }

    private static void tellWorkshops() {
        PieceMoulds x = of(1);
        for (int wrong : new int[] {-2, -3, 8, 9, MIN, MAX}) {
            due.is("P21 WORKSHOP " + wrong, x.tell(0, wrong, 0), -1);
        }
        due.is("P21 none was TOLD", x.count(5), 0);
        for (int workshop = -1; workshop < 8; workshop++) {
            due.is("P21 WORKSHOP " + workshop, x.tell(0, workshop, 0), workshop + 2);
            due.is("P22 WORKSHOP " + workshop, x.of(0, 0), workshop);
        }
    }

    private static void tellYears() {
        PieceMoulds x = of(1);
        for (int wrong : NO_YEARS) {
            due.is("P21 YEAR " + wrong, x.tell(0, 0, wrong), -1);
        }
        due.is("P21 none was TOLD", x.count(5), 0);
        due.is("P21 YEAR 0", x.tell(0, 0, 0), 1);
        due.is("P21 YEAR 3000", x.tell(0, 0, 3000), 2);
    }

    private static void tellVessels() {
        PieceMoulds x = of(1, 1);
        for (int none : new int[] {-1, 2, 39, 40, MIN, MAX}) {
            due.is("P21 no VESSEL " + none, x.tell(none, 0, 0), -2);
        }
        due.is("P21 none was TOLD", x.count(5), 0);
        due.is("P21 the last VESSEL", x.tell(1, 0, 0), 1);
        due.is("P21 without any VESSEL", new PieceMoulds().tell(0, 0, 0), -2);
    }

    private static void tellFirstRefusal() {
        PieceMoulds x = of(1);
        due.is("P21 the WORKSHOP ahead of the VESSEL", x.tell(1, 8, 0), -1);
        due.is("P21 the YEAR ahead of the VESSEL", x.tell(1, 0, 3001), -1);
        due.is("P21 the VESSEL", x.tell(1, 0, 0), -2);
    }

    private static void toldAre150() {
        PieceMoulds x = of(1);
        for (int i = 1; i <= 150; i++) {
            due.is("P21 told " + i, x.tell(0, i % 8, 0), i);
        }
        due.is("P21 no room", x.tell(0, 1, 0), -5);
        due.is("P21 the WORKSHOP ahead of the room", x.tell(0, -2, 0), -1);
        due.is("P21 the YEAR ahead of the room", x.tell(0, 1, -1), -1);
        due.is("P21 the VESSEL ahead of the room", x.tell(1, 1, 0), -2);
        due.is("P21 150 stay", x.count(5), 150);
        due.is("P22 the last counts", x.of(0, 0), 6);
    }

    private static void ofTheFirstAndLastYear() {
        PieceMoulds x = of(1, 1);
        x.tell(0, 4, 0);
        x.tell(1, 5, 3000);
        due.is("P22 known from 0 on, in 0", x.of(0, 0), 4);
        due.is("P22 known from 0 on, in 3000", x.of(0, 3000), 4);
        due.is("P22 known from 3000 on, in 2999", x.of(1, 2999), -1);
        due.is("P22 known from 3000 on, in 3000", x.of(1, 3000), 5);
    }

    private static void ofToldLast() {
        PieceMoulds x = of(1);
        x.tell(0, 1, 100);
        x.tell(0, 2, 100);
        due.is("P22 of one YEAR, the one told last", x.of(0, 100), 2);
        x.tell(0, 3, 50);
        due.is("P22 told last, though known earlier", x.of(0, 100), 3);
        x.tell(0, 4, 101);
        due.is("P22 not known by then", x.of(0, 100), 3);
        due.is("P22 known by then", x.of(0, 101), 4);
        due.is("P22 known by 50", x.of(0, 50), 3);
        due.is("P22 none known by 49", x.of(0, 49), -1);
    }

    private static void ofNone() {
        PieceMoulds x = of(1, 1);
        due.is("P22 never told", x.of(0, 3000), -1);
        x.tell(0, 0, 10);
        due.is("P22 WORKSHOP 0", x.of(0, 10), 0);
        x.tell(0, -1, 20);
        due.is("P22 of none from 20 on", x.of(0, 20), -1);
        due.is("P22 ahead of that", x.of(0, 19), 0);
        due.is("P22 another was never told", x.of(1, 20), -1);
    }

    private static void ofWithout() {
        PieceMoulds x = of(1);
        x.tell(0, 3, 0);
        for (int none : new int[] {-1, 1, 39, 40, MIN, MAX}) {
            due.is("P22 no VESSEL " + none, x.of(none, 0), -2);
        }
        for (int year : NO_YEARS) {
            due.is("P22 no YEAR " + year, x.of(0, year), -2);
        }
        due.is("P22 neither", x.of(1, 3001), -2);
    }

    private static void byNobody() {
        PieceMoulds x = of(11111111, 11111111);
        due.is("P23 none was TOLD", x.by(0, 3000), -1);
        x.tell(1, -1, 0);
        due.is("P23 of none", x.by(0, 3000), -1);
        x.tell(1, 0, 0);
        due.is("P23 of WORKSHOP 0", x.by(0, 3000), 0);
    }

    private static void byItself() {
        PieceMoulds x = of(11111111, 22222222);
        x.tell(0, 7, 0);
        due.is("P23 itself alone", x.by(0, 0), -1);
        x.tell(1, 5, 0);
        due.is("P23 the other, though unlike", x.by(0, 0), 5);
        x.tell(1, 7, 0);
        due.is("P23 together", x.by(0, 0), 7);
    }

    private static void byTheLowerOfAlike() {
        PieceMoulds x = of(11111111, 111, 111, 11, 1111);
        x.tell(1, 7, 0);
        x.tell(2, 0, 0);
        due.is("P23 3 and 3", x.by(0, 0), 0);
        x.tell(2, -1, 0);
        x.tell(3, 6, 0);
        x.tell(4, 6, 0);
        due.is("P23 3 and 6 / 2", x.by(0, 0), 6);
        x.tell(1, 5, 0);
        due.is("P23 3 and 6 / 2, turned", x.by(0, 0), 5);
    }

    private static void byFractions() {
        PieceMoulds x = of(11111111, 1, 11, 1, 1, 11);
        x.tell(1, 7, 0);
        x.tell(2, 7, 0);
        x.tell(3, 2, 0);
        x.tell(4, 2, 0);
        x.tell(5, 2, 0);
        due.is("P23 3 / 2 is more than 4 / 3", x.by(0, 0), 7);
        x.tell(2, 2, 0);
        due.is("P23 6 / 4 is more than 1", x.by(0, 0), 2);
        PieceMoulds sum = of(11111111, 111, 11, 11);
        sum.tell(1, 4, 0);
        sum.tell(2, 3, 0);
        sum.tell(3, 3, 0);
        due.is("P23 3 / 1 is more than 4 / 2", sum.by(0, 0), 4);
    }

    private static void byLessThanNothing() {
        PieceMoulds x = of(11111111, 2, 22, 2, 2, 22, 0);
        x.tell(1, 7, 0);
        x.tell(2, 7, 0);
        due.is("P23 -3 / 2 alone", x.by(0, 0), 7);
        x.tell(3, 2, 0);
        x.tell(4, 2, 0);
        x.tell(5, 2, 0);
        due.is("P23 -4 / 3 is more than -3 / 2", x.by(0, 0), 2);
        x.tell(6, 5, 0);
        due.is("P23 0 is more than both", x.by(0, 0), 5);
        due.is("P23 all unknown: the lowest", x.by(6, 0), 2);
        PieceMoulds least = of(11111111, 22222222, 22222222, 22222222);
        least.tell(1, 6, 0);
        least.tell(2, 6, 0);
        least.tell(3, 3, 0);
        due.is("P23 -16 / 2 and -8: the lower", least.by(0, 0), 3);
    }

    private static void byTheYear() {
        PieceMoulds x = of(11111111, 11111111, 11);
        x.tell(1, 1, 100);
        x.tell(2, 2, 50);
        due.is("P23 in 49", x.by(0, 49), -1);
        due.is("P23 in 50", x.by(0, 50), 2);
        due.is("P23 in 99", x.by(0, 99), 2);
        due.is("P23 in 100", x.by(0, 100), 1);
        x.tell(1, -1, 3000);
        due.is("P23 in 2999", x.by(0, 2999), 1);
        due.is("P23 in 3000", x.by(0, 3000), 2);
        x.tell(1, 4, 0);
        due.is("P23 in 0", x.by(0, 0), 4);
    }

    private static void byAllOthers() {
        PieceMoulds x = new PieceMoulds();
        x.vessel(11111111);
        for (int i = 1; i < 40; i++) {
            x.vessel(i < 39 ? 11111111 : 11111112);
            x.tell(i, i < 39 ? 3 : 1, 0);
        }
        due.is("P23 8 is more than 6", x.by(0, 0), 3);
        x.tell(39, 3, 0);
        x.tell(1, 6, 0);
        due.is("P23 8 is more than 302 / 38", x.by(0, 0), 6);
        x.tell(1, 0, 0);
        due.is("P23 8 in WORKSHOP 0", x.by(0, 0), 0);
        x.tell(1, 3, 0);
        due.is("P23 39 others of one WORKSHOP", x.by(0, 0), 3);
        due.is("P23 of the last", x.by(39, 0), 3);
    }

    private static void byWithout() {
        PieceMoulds x = of(1, 1);
        x.tell(0, 3, 0);
        for (int none : new int[] {-1, 2, 39, 40, MIN, MAX}) {
            due.is("P23 no VESSEL " + none, x.by(none, 0), -2);
        }
        for (int year : NO_YEARS) {
            due.is("P23 no YEAR " + year, x.by(1, year), -2);
        }
        due.is("P23 YEAR 0", x.by(1, 0), 3);
        due.is("P23 YEAR 3000", x.by(1, 3000), 3);
    }
}
