import java.util.function.ToIntFunction;

/**
 * The edges of promises 24 and 25, and of every refusal: which comes first, that it changes nothing, and that
 * status() tells it until the next call that it tells of.
 */
public final class RefusalTest {
    private static final int MIN = Integer.MIN_VALUE;
    private static final int MAX = Integer.MAX_VALUE;
    private static final Due due = new Due();

    public static void main(String[] args) {
        refusalsOfABench();
        refusalsOfAFullBench();
        rulesThatAreRefused();
        pourWithoutAMix();
        callsThatOnlyLook();
        statusAheadOfAny();
        statusUntilTheNext();
        countAtItsMost();
        countOfOthers();
        theLastCall();
        due.end();
    }

    /** A bench with something of everything: repairs, a mix, rules, bytes on the tape, vessels. */
    private static PieceMoulds bench() {
        PieceMoulds x = Picture.drawn("C0V/.S./.C7");
        x.repair(0, 1);
        x.repair(2, 1);
        x.lot(100, 50, 3, 7);
        x.lot(0, 0, 2, 40);
        x.mix(5, 20, 50, 50);
        Due.feedText(x, "air 0;dry 1;wall 2");
        x.rules();
        Due.feedText(x, "wall 1");
        x.vessel(11111111);
        x.vessel(11112222);
        x.vessel(11111112);
        x.tell(1, 3, 0);
        x.tell(2, 2, 10);
        x.tell(2, -1, 20);
        return x;
    }

    private static PieceMoulds fullBench() {
        PieceMoulds x = bench();
        for (int i = 2; i < 6; i++) {
            x.lot(i, i, i, i);
        }
        for (int i = 3; i < 40; i++) {
            x.vessel(i);
        }
        for (int i = 3; i < 150; i++) {
            x.tell(i % 40, i % 8, i);
        }
        return x;
    }

    /** The call is made on one of two like objects; afterwards all but status() is as with the other. */
    private static void refused(String name, boolean full, ToIntFunction<PieceMoulds> call, int want) {
        PieceMoulds x = full ? fullBench() : bench();
        PieceMoulds untouched = full ? fullBench() : bench();
        due.is("status() ahead of " + name, x.status(), 0);
        due.is(name, call.applyAsInt(x), want);
        due.is("P25 status() of " + name, x.status(), want);
        due.same("all behind " + name, Snapshot.of(x), Snapshot.of(untouched));
        due.is("P25 status() is not changed by looking", x.status(), want);
    }

    private static void refusalsOfABench() {
        refused("size(1, 3)", false, x -> x.size(1, 3), -1);
        refused("size(3, 13)", false, x -> x.size(3, 13), -1);
        refused("draw of sort 5", false, x -> x.draw(0, 0, 2, 2, 5), -1);
        refused("draw from right to left", false, x -> x.draw(2, 0, 0, 2, 0), -1);
        refused("draw of no sort outside", false, x -> x.draw(0, 0, 3, 3, 18), -1);
        refused("draw from up to down outside", false, x -> x.draw(0, 3, 0, 2, 0), -1);
        refused("draw outside", false, x -> x.draw(0, 0, 3, 2, 0), -2);
        refused("repair outside", false, x -> x.repair(3, 0), -2);
        refused("repair of MIN", false, x -> x.repair(MIN, MIN), -2);
        refused("repair of CORE", false, x -> x.repair(1, 0), -3);
        refused("repair of a REPAIR", false, x -> x.repair(0, 1), -3);
        refused("lot of 1001", false, x -> x.lot(500, 501, 0, 0), -1);
        refused("lot of 41 UNITS", false, x -> x.lot(0, 0, 0, 41), -1);
        refused("mix of 0", false, x -> x.mix(0, 0, 1000, 1000), -1);
        refused("mix of 41", false, x -> x.mix(41, 0, 1000, 1000), -1);
        refused("mix from 2 to 1", false, x -> x.mix(1, 2, 1, 1000), -1);
        refused("mix to 1001", false, x -> x.mix(1, 0, 1001, 1000), -1);
        refused("mix of lead to 1001", false, x -> x.mix(1, 0, 1000, 1001), -1);
        refused("mix that there is none of", false, x -> x.mix(8, 100, 100, 1000), -6);
        refused("vessel(-1)", false, x -> x.vessel(-1), -1);
        refused("vessel(100000000)", false, x -> x.vessel(100000000), -1);
        refused("tell WORKSHOP 8", false, x -> x.tell(0, 8, 0), -1);
        refused("tell YEAR 3001", false, x -> x.tell(0, 0, 3001), -1);
        refused("tell WORKSHOP 8 of no VESSEL", false, x -> x.tell(3, 8, 0), -1);
        refused("tell of no VESSEL", false, x -> x.tell(3, 0, 0), -2);
    }

    private static void refusalsOfAFullBench() {
        refused("a seventh lot", true, x -> x.lot(0, 0, 0, 0), -5);
        refused("a seventh lot, wrong", true, x -> x.lot(-1, 0, 0, 0), -1);
        refused("a 41st vessel", true, x -> x.vessel(0), -5);
        refused("a 41st vessel, wrong", true, x -> x.vessel(MIN), -1);
        refused("a 151st told", true, x -> x.tell(0, 0, 0), -5);
        refused("a 151st told, wrong", true, x -> x.tell(0, 0, -1), -1);
        refused("a 151st told of no VESSEL", true, x -> x.tell(40, 0, 0), -2);
    }

    private static void rulesThatAreRefused() {
        PieceMoulds x = bench();
        PieceMoulds untouched = bench();
        Due.feedText(x, ";");
        due.is("P16 rules()", x.rules(), -6);
        due.is("P25 its status()", x.status(), -6);
        due.same("P16 the TAPE is empty, FAULT is told", Snapshot.tape(x), "tape 0 fault 7\n");
        due.same("P16 RULES stay", Snapshot.rules(x), Snapshot.rules(untouched));
        due.same("P16 the mould stays", Snapshot.mould(x), Snapshot.mould(untouched));
        due.same("P16 the metal stays", Snapshot.metal(x), Snapshot.metal(untouched));
        due.same("P16 the vessels stay", Snapshot.vessels(x), Snapshot.vessels(untouched));
    }

    private static void pourWithoutAMix() {
        PieceMoulds x = bench();
        PieceMoulds untouched = bench();
        due.is("P12 pour()", x.pour(), 5);
        due.is("P12 pour()", untouched.pour(), 5);
        due.is("P12 pour() without", x.pour(), -6);
        due.is("P25 its status()", x.status(), -6);
        due.same("P12 all behind it", Snapshot.of(x), Snapshot.of(untouched));
    }

    private static void callsThatOnlyLook() {
        PieceMoulds x = bench();
        PieceMoulds untouched = bench();
        for (int a : new int[] {-2, -1, 0, 1, 9, 301, MIN, MAX}) {
            x.cell(a, a, 1);
            x.cell(0, a, a);
            x.wall(a, 0);
            x.wall(a, a);
            x.many(a);
            x.off(a, 0);
            x.off(0, a);
            x.off(-1, a);
            x.mixed(a);
            x.left(a);
            x.broken(a);
            x.like(a, a);
            x.of(a, a);
            x.of(0, a);
            x.by(a, a);
            x.by(0, a);
            x.count(a);
            x.fault();
            x.status();
        }
        due.is("P15 an end that the TAPE has not", x.end(7), -1);
        due.same("all behind them", Snapshot.of(x), Snapshot.of(untouched));
        due.is("P25 status() behind them", x.status(), 0);
    }

    private static void statusAheadOfAny() {
        PieceMoulds x = new PieceMoulds();
        due.is("P25 ahead of any", x.status(), 0);
        x.end(1);
        x.cell(8, 8, 8);
        x.of(0, 0);
        x.like(0, 0);
        due.is("P25 calls that it does not tell of", x.status(), 0);
    }

    /** After each refusal a call of each kind that succeeds, and the other way round. */
    private static void statusUntilTheNext() {
        PieceMoulds x = new PieceMoulds();
        int[] right = {x.size(3, 3), x.status(), x.draw(0, 0, 0, 0, 2), x.status(), x.repair(1, 0), x.status(),
            x.lot(0, 0, 1, 1), x.status(), x.mix(1, 0, 0, 0), x.status(), x.pour(), x.status(), x.rules(), x.status(),
            x.vessel(0), x.status(), x.tell(0, 0, 0), x.status()};
        int[] want = {0, 0, 1, 0, 1, 0, 0, 0, 1, 0, 1, 0, 0, 0, 0, 0, 1, 0};
        for (int i = 0; i < want.length; i++) {
            due.is("P25 call " + i + " that is right", right[i], want[i]);
        }
        x.feed(0, 0, 0, 0, 0);
        int[] mixed = {x.size(1, 1), x.status(), x.size(3, 3), x.status(), x.draw(0, 0, 3, 0, 0), x.status(),
            x.draw(0, 0, 0, 0, 2), x.status(), x.repair(0, 0), x.status(), x.repair(0, 1), x.status(),
            x.mix(1, 0, 0, 0), x.status(), x.lot(0, 0, 0, 1), x.status(), x.pour(), x.status(),
            x.mix(1, 0, 0, 0), x.status(), x.rules(), x.status(), x.rules(), x.status(),
            x.tell(1, 0, 0), x.status(), x.vessel(0), x.status(), x.vessel(-1), x.status(), x.tell(1, 0, 0), x.status()};
        int[] due2 = {-1, -1, 0, 0, -2, -2, 1, 0, -3, -3, 1, 0, -6, -6, 1, 0, -6, -6, 0, 0, -6, -6, 0, 0,
            -2, -2, 1, 0, -1, -1, 2, 0};
        for (int i = 0; i < due2.length; i++) {
            due.is("P25 call " + i + " of both kinds", mixed[i], due2[i]);
        }
    }

    private static void countAtItsMost() {
        PieceMoulds x = fullBench();
        x.size(12, 12);
        x.end(0);
        Due.feedText(x, "air 0;".repeat(19) + "air 0");
        x.rules();
        Due.feedText(x, " ".repeat(300));
        int[] most = {12, 12, 6, 20, 40, 150, 300};
        for (int what = 0; what < 7; what++) {
            due.is("P24 the most of " + what, x.count(what), most[what]);
        }
        x.size(2, 2);
        x.end(0);
        x.rules();
        int[] least = {2, 2, 6, 0, 40, 150, 0};
        for (int what = 0; what < 7; what++) {
            due.is("P24 the least of " + what, x.count(what), least[what]);
        }
    }

    private static void countOfOthers() {
        PieceMoulds x = bench();
        for (int what : new int[] {-1, -2, 7, 8, 100, MIN, MAX}) {
            due.is("P24 count " + what, x.count(what), -1);
        }
    }

    /** An object is used for 512 calls: the dearest ones among them, up to the last. */
    private static void theLastCall() {
        PieceMoulds x = new PieceMoulds();
        x.size(12, 12);
        for (int i = 0; i < 6; i++) {
            x.lot(100 * i, 10 * i, 7 * i % 10, 40);
        }
        for (int i = 0; i < 252; i++) {
            x.draw(i % 12, i / 12 % 12, i % 12, i / 12 % 12, i % 5);
            x.wall(-1, -1);
        }
        due.is("P10 the 512th", x.mix(40, 250, 250, 1000), of512());
    }

    private static int of512() {
        Model model = new Model();
        for (int i = 0; i < 6; i++) {
            model.lot(100 * i, 10 * i, 7 * i % 10, 40);
        }
        return model.mix(40, 250, 250, 1000);
    }
}
