/** Promises 1 to 8: the cells, what becomes of them, repairs, walls, and the order of the pieces. */
public final class MouldTest {
    private static final int MIN = Integer.MIN_VALUE;
    private static final int MAX = Integer.MAX_VALUE;
    private static final Due due = new Due();

    public static void main(String[] args) {
        newObject();
        size();
        draw();
        cell();
        airUnderRoof();
        repair();
        wall();
        many();
        off();
        offBlocked();
        due.end();
    }

    private static void newObject() {
        PieceMoulds x = new PieceMoulds();
        due.is("new W", x.count(0), 8);
        due.is("new H", x.count(1), 8);
        due.is("new OPEN", x.cell(7, 7, 0), 0);
        due.is("new DRY", x.many(1), 64);
        due.is("new CAST", x.many(0), 0);
        due.is("new LOTS", x.count(2), 0);
        due.is("new RULES", x.count(3), 0);
        due.is("new VESSELS", x.count(4), 0);
        due.is("new TOLD", x.count(5), 0);
        due.is("new TAPE", x.count(6), 0);
        due.is("new mixed", x.mixed(-1), -1);
        due.is("new fault", x.fault(), -1);
        due.is("new broken", x.broken(0), -1);
        due.is("new off", x.off(-1, 2), 0);
        due.is("new status", x.status(), 0);
    }

    private static void size() {
        PieceMoulds x = new PieceMoulds();
        due.is("draw", x.draw(0, 0, 7, 7, 3), 64);
        int[][] wrong = {{1, 5}, {5, 1}, {13, 5}, {5, 13}, {0, 0}, {-3, 5}, {MIN, MAX}};
        for (int[] wh : wrong) {
            due.is("size wrong", x.size(wh[0], wh[1]), -1);
        }
        due.is("a size that is refused changes nothing", x.many(0), 64);
        due.is("size(2, 12)", x.size(2, 12), 0);
        due.is("W", x.count(0), 2);
        due.is("H", x.count(1), 12);
        due.is("all are OPEN", x.many(1), 24);
        due.is("corner", x.cell(1, 11, 0), 0);
        due.is("outside", x.cell(2, 0, 0), -1);
        due.is("size(12, 2)", x.size(12, 2), 0);
        due.is("far corner", x.draw(11, 1, 11, 1, 3), 1);
        due.is("size again", x.size(12, 2), 0);
        due.is("OPEN again", x.cell(11, 1, 0), 0);
        due.is("smaller", x.size(3, 3), 0);
        due.is("drawn in the small one", x.draw(0, 0, 2, 2, 10), 9);
        due.is("larger", x.size(12, 12), 0);
        due.is("nothing is left of the small one", x.many(6), 0);
    }

    private static void draw() {
        PieceMoulds x = new PieceMoulds();
        int[] sorts = {0, 1, 2, 3, 4, 10, 11, 12, 13, 14, 15, 16, 17};
        for (int sort : sorts) {
            due.is("draw " + sort, x.draw(1, 2, 3, 6, sort), 15);
            due.is("low corner", x.cell(1, 2, 0), sort);
            due.is("high corner", x.cell(3, 6, 0), sort);
            due.is("beside", x.cell(0, 2, 0) + x.cell(4, 6, 0) + x.cell(1, 1, 0) + x.cell(3, 7, 0), 0);
        }
        int[] noSorts = {-1, 5, 9, 18, MIN, MAX};
        for (int sort : noSorts) {
            due.is("no sort " + sort, x.draw(0, 0, 0, 0, sort), -1);
        }
        due.is("x above u", x.draw(2, 0, 1, 0, 0), -1);
        due.is("y above v", x.draw(0, 2, 0, 1, 0), -1);
        due.is("the order is seen before the cell", x.draw(9, 0, 8, 0, 0), -1);
        due.is("the sort is seen before the cell", x.draw(0, 0, 8, 0, 5), -1);
        due.is("u outside", x.draw(0, 0, 8, 0, 0), -2);
        due.is("v outside", x.draw(0, 0, 0, 8, 0), -2);
        due.is("x outside", x.draw(-1, 0, 0, 0, 0), -2);
        due.is("y outside", x.draw(0, -1, 0, 0, 0), -2);
        due.is("far outside", x.draw(MIN, MIN, MAX, MAX, 0), -2);
        due.is("all", x.draw(0, 0, 7, 7, 17), 64);
    }

    private static void cell() {
        PieceMoulds x = new PieceMoulds();
        due.is("size", x.size(4, 2), 0);
        due.is("core", x.draw(1, 0, 1, 1, 1), 2);
        due.is("gate", x.draw(0, 1, 0, 1, 3), 1);
        due.is("vent", x.draw(2, 1, 2, 1, 4), 1);
        due.is("spacer", x.draw(3, 0, 3, 0, 2), 1);
        due.is("clay", x.draw(3, 1, 3, 1, 13), 1);
        due.is("GATE is CAST", x.cell(0, 1, 1), 1);
        due.is("OPEN below it is CAST", x.cell(0, 0, 1), 1);
        due.is("CORE", x.cell(1, 0, 1), 0);
        due.is("a VENT that no GATE is joined with is DRY", x.cell(2, 1, 1), 2);
        due.is("so is what lies below", x.cell(2, 0, 1), 2);
        due.is("SPACER is CAST", x.cell(3, 0, 1), 1);
        due.is("clay", x.cell(3, 1, 1), 0);
        due.is("sort of clay", x.cell(3, 1, 0), 13);
        due.is("what 2", x.cell(0, 0, 2), -1);
        due.is("what -1", x.cell(0, 0, -1), -1);
        due.is("x 4", x.cell(4, 0, 0), -1);
        due.is("y 2", x.cell(0, 2, 1), -1);
        due.is("x -1", x.cell(-1, 0, 0), -1);
        due.is("y MIN", x.cell(0, MIN, 0), -1);
    }

    /** A gate low at the side: what lies above it fills only as far as air can get out over it. */
    private static void airUnderRoof() {
        PieceMoulds x = new PieceMoulds();
        due.is("size", x.size(3, 4), 0);
        due.is("gate", x.draw(0, 1, 0, 1, 3), 1);
        due.is("clay above the gate", x.draw(0, 2, 0, 3, 10), 2);
        due.is("row 0", x.cell(2, 0, 1), 1);
        due.is("row 1", x.cell(2, 1, 1), 1);
        due.is("row 2 is AIR", x.cell(1, 2, 1), 3);
        due.is("row 3 is AIR", x.cell(2, 3, 1), 3);
        due.is("many AIR", x.many(2), 4);
        due.is("a vent lets it out", x.draw(1, 3, 1, 3, 4), 1);
        due.is("no AIR", x.many(2), 0);
        due.is("the vent itself is CAST", x.cell(1, 3, 1), 1);
        due.is("a roof over column 2", x.draw(1, 2, 1, 2, 1), 1);
        due.is("row 3 joins both columns", x.cell(2, 2, 1), 1);
        due.is("a wall in it", x.draw(1, 3, 1, 3, 1), 1);
        due.is("again AIR", x.cell(2, 3, 1) * 10 + x.cell(2, 2, 1), 33);
        due.is("not below", x.cell(2, 1, 1), 1);
    }

    private static void repair() {
        PieceMoulds x = new PieceMoulds();
        x.size(5, 2);
        x.draw(0, 0, 0, 0, 3);
        x.draw(1, 0, 1, 1, 1);
        due.is("DRY, but nothing CAST beside", x.repair(2, 0), -3);
        due.is("CAST", x.repair(0, 0), -3);
        due.is("CORE", x.repair(1, 0), -3);
        due.is("outside", x.repair(5, 0), -2);
        due.is("x -1", x.repair(-1, 0), -2);
        due.is("MAX", x.repair(MAX, MIN), -2);
        x.draw(1, 0, 1, 0, 2);
        due.is("beside a SPACER", x.repair(2, 0), 1);
        due.is("REPAIRED", x.cell(2, 0, 1), 5);
        due.is("its sort", x.cell(2, 0, 0), 0);
        due.is("twice", x.repair(2, 0), -3);
        due.is("a corner is not beside", x.repair(3, 1), -3);
        due.is("beside a REPAIR, upward", x.repair(2, 1), 2);
        due.is("beside a REPAIR, sideways", x.repair(3, 1), 3);
        due.is("REPAIRS", x.many(5), 3);
        due.is("a draw that is refused leaves them", x.draw(0, 0, 9, 9, 0), -2);
        due.is("REPAIRS stay", x.many(5), 3);
        due.is("a size that is refused leaves them", x.size(1, 1), -1);
        due.is("REPAIRS stay", x.many(5), 3);
        due.is("the same drawn anew", x.draw(0, 0, 0, 0, 3), 1);
        due.is("takes them away", x.many(5), 0);
        due.is("DRY again", x.cell(2, 0, 1), 2);
        due.is("REPAIR anew", x.repair(2, 0), 1);
        due.is("the same size", x.size(5, 2), 0);
        due.is("takes them away too", x.many(5), 0);
        due.is("nothing CAST any more", x.repair(2, 0), -3);
    }

    private static void wall() {
        PieceMoulds x = new PieceMoulds();
        due.is("no CAST", x.wall(-1, -1), 0);
        due.is("DRY", x.wall(0, 0), 0);
        x.size(6, 4);
        x.draw(0, 0, 5, 3, 10);
        x.draw(0, 0, 4, 2, 3);
        due.is("5 by 3", x.wall(2, 1), 3);
        due.is("of the mould", x.wall(-1, -1), 3);
        x.draw(2, 0, 2, 0, 1);
        due.is("above the core", x.wall(2, 1), 2);
        due.is("left of it", x.wall(1, 0), 2);
        due.is("the core", x.wall(2, 0), 0);
        due.is("clay", x.wall(5, 3), 0);
        x.draw(2, 0, 2, 0, 2);
        due.is("a SPACER breaks nothing", x.wall(2, 1), 3);
        due.is("a SPACER's own", x.wall(2, 0), 3);
        x.draw(5, 1, 5, 1, 3);
        due.is("a spur", x.wall(5, 1), 1);
        due.is("the least", x.wall(-1, -1), 1);
        due.is("x outside", x.wall(6, 0), -1);
        due.is("y outside", x.wall(0, 4), -1);
        due.is("x alone NONE", x.wall(-1, 0), -1);
        due.is("y alone NONE", x.wall(0, -1), -1);
        due.is("far", x.wall(MIN, MAX), -1);
        x.size(2, 2);
        x.draw(0, 0, 0, 1, 1);
        x.draw(0, 0, 0, 0, 2);
        due.is("SPACER alone", x.wall(0, 0), 1);
        due.is("REPAIR", x.repair(1, 0), 1);
        due.is("REPAIRS count", x.wall(1, 0), 1);
        due.is("REPAIR above", x.repair(1, 1), 2);
        due.is("both ways 2", x.wall(1, 0), 2);
        due.is("of the mould still 1", x.wall(-1, -1), 1);
    }

    private static void many() {
        PieceMoulds x = new PieceMoulds();
        x.size(4, 4);
        x.draw(0, 0, 3, 3, 17);
        x.draw(0, 3, 0, 3, 3);
        x.draw(0, 0, 0, 2, 0);
        x.draw(1, 0, 1, 0, 0);
        x.draw(2, 0, 2, 2, 0);
        x.draw(3, 3, 3, 3, 0);
        x.draw(3, 0, 3, 0, 2);
        x.draw(1, 3, 2, 3, 1);
        int[] want = {7, 1, 2, 2, 1, 0, 4};
        for (int what = 0; what < want.length; what++) {
            due.is("many " + what, x.many(what), want[what]);
        }
        due.is("repair AIR", x.repair(2, 1), 1);
        int[] then = {8, 1, 1, 2, 1, 1, 4};
        for (int what = 0; what < then.length; what++) {
            due.is("then many " + what, x.many(what), then[what]);
        }
        due.is("many(7)", x.many(7), -1);
        due.is("many(-1)", x.many(-1), -1);
        due.is("many(MIN)", x.many(MIN), -1);
    }

    /** Piece 1 holds piece 0 on all sides but one that piece 1 itself frees. */
    private static void off() {
        PieceMoulds x = new PieceMoulds();
        x.size(5, 3);
        x.draw(0, 0, 4, 2, 11);
        x.draw(1, 1, 2, 1, 1);
        x.draw(3, 1, 3, 1, 10);
        due.is("PIECES", x.off(-1, 2), 2);
        due.is("none is off: 0 is held by 1, 1 by the core", x.off(-1, 0), 0);
        due.is("both are STUCK", x.off(-1, 1), 2);
        due.is("no first", x.off(0, 0), -1);
        x.draw(0, 0, 3, 0, 4);
        x.draw(0, 1, 0, 1, 4);
        x.draw(4, 0, 4, 0, 4);
        due.is("1 is a hook at the right now", x.off(-1, 0), 2);
        due.is("0 goes first over the vent", x.off(0, 0), 0);
        due.is("it goes down", x.off(0, 1), 3);
        due.is("then 1", x.off(1, 0), 1);
        due.is("1 goes right", x.off(1, 1), 0);
        due.is("third", x.off(2, 0), -1);
        due.is("none STUCK", x.off(-1, 1), 0);
        due.is("what 2 of a piece", x.off(0, 2), -1);
        due.is("what 3 of all", x.off(-1, 3), -1);
        due.is("what -1", x.off(0, -1) + x.off(-1, -1), -2);
        due.is("i -2", x.off(-2, 0), -1);
        due.is("far", x.off(MAX, 0) + x.off(MIN, 1), -2);
    }

    private static void offBlocked() {
        int[] blockers = {0, 1, 2, 3, 4};
        int[] offs = {0, 0, 0, 1, 1};
        for (int i = 0; i < blockers.length; i++) {
            PieceMoulds x = new PieceMoulds();
            x.size(3, 3);
            x.draw(0, 0, 2, 2, blockers[i]);
            x.draw(1, 1, 1, 1, 17);
            due.is("a piece amid sort " + blockers[i], x.off(-1, 0), offs[i]);
        }
        PieceMoulds x = new PieceMoulds();
        x.size(8, 2);
        for (int k = 0; k < 8; k++) {
            x.draw(k, 0, k, 0, 17 - k);
            x.draw(k, 1, k, 1, 1);
        }
        due.is("all eight", x.off(-1, 0), 8);
        for (int k = 0; k < 8; k++) {
            due.is("piece " + k, x.off(k, 0), k);
            due.is("direction of " + k, x.off(k, 1), 0);
        }
        x.draw(0, 0, 7, 1, 1);
        x.draw(1, 0, 1, 0, 12);
        x.draw(0, 0, 0, 0, 10);
        due.is("the lower one first", x.off(0, 0) * 10 + x.off(0, 1), 2);
        due.is("then the other into its room", x.off(1, 0) * 10 + x.off(1, 1), 22);
    }
}
