/** The edges of promises 1 to 4, a test for each: sizes, drawing, the sorts, cells that are not there. */
public final class GridEdgesTest {
    private static final int MIN = Integer.MIN_VALUE;
    private static final int MAX = Integer.MAX_VALUE;
    private static final int[] TOO_SMALL_OR_LARGE = {1, 0, -1, 13, 14, 1000, MIN, MAX};
    private static final Due due = new Due();

    public static void main(String[] args) {
        atFirstAllCellsAreOpen();
        atFirstThereIsNothingElse();
        everySizeFromTwoToTwelve();
        noOtherWidth();
        noOtherHeight();
        widthIsNotHeight();
        sizeOpensAllCells();
        nothingIsLeftOfALargerSize();
        drawOneCellAtEachCorner();
        drawAllOfTheLargest();
        drawCountsCellsThatStayAlike();
        drawReachesItsCornersAndNoFurther();
        drawTheOrder();
        drawTheSorts();
        drawOutsideByOne();
        drawWithNumbersThatWrapAround();
        drawFirstRefusal();
        refusedDrawChangesNoCell();
        cellOutsideByOne();
        cellOfNoSuchWhat();
        cellOfCoreAndClay();
        cellOfEachHollow();
        due.end();
    }

    private static void atFirstAllCellsAreOpen() {
        PieceMoulds x = new PieceMoulds();
        for (int i = 0; i < 64; i++) {
            due.is("P1 cell " + i + " is OPEN", x.cell(i % 8, i / 8, 0), 0);
        }
        due.is("P1 no column 8", x.cell(8, 0, 0), -1);
        due.is("P1 no row 8", x.cell(0, 8, 0), -1);
        due.is("P1 W", x.count(0), 8);
        due.is("P1 H", x.count(1), 8);
    }

    private static void atFirstThereIsNothingElse() {
        PieceMoulds x = new PieceMoulds();
        int[] counts = {8, 8, 0, 0, 0, 0, 0};
        int[] cells = {0, 64, 0, 0, 0, 0, 0};
        for (int what = 0; what < 7; what++) {
            due.is("P1 count " + what, x.count(what), counts[what]);
            due.is("P1 many " + what, x.many(what), cells[what]);
        }
        due.is("P1 WALL", x.wall(-1, -1), 0);
        due.same("P1 ORDER", Picture.order(x), "| 0");
        due.is("P1 no LOT", x.left(0), -1);
        due.is("P1 no MIX", x.mixed(-1), -1);
        due.is("P1 no MIX to pour", x.pour(), -6);
        due.is("P1 no FAULT", x.fault(), -1);
        due.is("P1 no RULE", x.broken(0), -1);
        due.is("P1 no VESSEL", x.like(0, 0), -1000);
        due.is("P1 nobody's WORKSHOP", x.of(0, 0), -2);
        due.is("P1 no marks", x.by(0, 0), -2);
        due.is("P1 an empty TAPE", x.end(0), 0);
        due.is("P1 nothing on it", x.end(1), -1);
    }

    private static void everySizeFromTwoToTwelve() {
        PieceMoulds x = new PieceMoulds();
        for (int w = 2; w <= 12; w++) {
            for (int h = 2; h <= 12; h++) {
                due.is("P2 size " + w + ", " + h, x.size(w, h), 0);
                due.is("P2 W, H " + w + ", " + h, x.count(0) * 100 + x.count(1), w * 100 + h);
                due.is("P2 last CELL of " + w + ", " + h, x.cell(w - 1, h - 1, 0), 0);
            }
        }
    }

    private static void noOtherWidth() {
        for (int w : TOO_SMALL_OR_LARGE) {
            PieceMoulds x = new PieceMoulds();
            due.is("P2 W " + w, x.size(w, 5), -1);
            due.is("P2 W stays", x.count(0) * 100 + x.count(1), 808);
        }
    }

    private static void noOtherHeight() {
        for (int h : TOO_SMALL_OR_LARGE) {
            PieceMoulds x = new PieceMoulds();
            due.is("P2 H " + h, x.size(5, h), -1);
            due.is("P2 H stays", x.count(0) * 100 + x.count(1), 808);
        }
    }

    private static void widthIsNotHeight() {
        PieceMoulds x = new PieceMoulds();
        x.size(2, 12);
        due.is("P2 the highest row of 2, 12", x.cell(1, 11, 0), 0);
        due.is("P2 no third column", x.cell(2, 0, 0), -1);
        due.is("P2 no thirteenth row", x.cell(0, 12, 0), -1);
        x.size(12, 2);
        due.is("P2 the last column of 12, 2", x.cell(11, 1, 0), 0);
        due.is("P2 no third row", x.cell(0, 2, 0), -1);
        due.is("P2 no thirteenth column", x.cell(12, 0, 0), -1);
    }

    private static void sizeOpensAllCells() {
        PieceMoulds x = Picture.drawn("CSG/V07");
        due.is("P2 the same size again", x.size(3, 2), 0);
        for (int i = 0; i < 6; i++) {
            due.is("P2 cell " + i + " is OPEN", x.cell(i % 3, i / 3, 0), 0);
        }
    }

    private static void nothingIsLeftOfALargerSize() {
        PieceMoulds x = new PieceMoulds();
        x.size(12, 12);
        x.draw(0, 0, 11, 11, 17);
        x.size(2, 2);
        x.size(12, 12);
        due.is("P2 all of 144 are OPEN", x.many(1), 144);
        due.is("P2 no clay", x.many(6), 0);
    }

    private static void drawOneCellAtEachCorner() {
        PieceMoulds x = new PieceMoulds();
        x.size(12, 12);
        int[][] corners = {{0, 0}, {11, 0}, {0, 11}, {11, 11}};
        for (int[] c : corners) {
            due.is("P3 one CELL", x.draw(c[0], c[1], c[0], c[1], 1), 1);
            due.is("P3 it is drawn", x.cell(c[0], c[1], 0), 1);
        }
        due.is("P3 four are drawn", x.many(3), 4);
    }

    private static void drawAllOfTheLargest() {
        PieceMoulds x = new PieceMoulds();
        x.size(12, 12);
        due.is("P3 all", x.draw(0, 0, 11, 11, 1), 144);
        due.is("P3 CORE", x.many(3), 144);
        due.is("P3 a row", x.draw(0, 5, 11, 5, 0), 12);
        due.is("P3 a column", x.draw(5, 0, 5, 11, 0), 12);
        due.is("P3 both are one CELL less", x.many(3), 121);
    }

    private static void drawCountsCellsThatStayAlike() {
        PieceMoulds x = new PieceMoulds();
        due.is("P3 OPEN drawn OPEN", x.draw(0, 0, 7, 7, 0), 64);
        due.is("P3 CORE", x.draw(1, 1, 2, 2, 1), 4);
        due.is("P3 CORE over CORE", x.draw(0, 0, 2, 2, 1), 9);
    }

    private static void drawReachesItsCornersAndNoFurther() {
        PieceMoulds x = new PieceMoulds();
        x.draw(2, 3, 5, 4, 1);
        for (int i = 0; i < 64; i++) {
            int column = i % 8;
            int row = i / 8;
            boolean inside = column >= 2 && column <= 5 && row >= 3 && row <= 4;
            due.is("P3 cell " + column + ", " + row, x.cell(column, row, 0), inside ? 1 : 0);
        }
    }

    private static void drawTheOrder() {
        PieceMoulds x = new PieceMoulds();
        due.is("P3 u is x", x.draw(3, 3, 3, 4, 1), 2);
        due.is("P3 u below x", x.draw(3, 3, 2, 4, 1), -1);
        due.is("P3 v is y", x.draw(3, 3, 4, 3, 1), 2);
        due.is("P3 v below y", x.draw(3, 3, 4, 2, 1), -1);
        due.is("P3 both below", x.draw(3, 3, 2, 2, 1), -1);
    }

    private static void drawTheSorts() {
        PieceMoulds x = new PieceMoulds();
        for (int sort = -3; sort <= 20; sort++) {
            boolean known = sort >= 0 && sort <= 4 || sort >= 10 && sort <= 17;
            due.is("P3 sort " + sort, x.draw(1, 1, 1, 1, sort), known ? 1 : -1);
            due.is("P3 drawn " + sort, x.cell(1, 1, 0), known ? sort : sort < 0 ? 0 : sort < 10 ? 4 : 17);
        }
        due.is("P3 sort MIN", x.draw(0, 0, 0, 0, MIN), -1);
        due.is("P3 sort MAX", x.draw(0, 0, 0, 0, MAX), -1);
    }

    private static void drawOutsideByOne() {
        PieceMoulds x = new PieceMoulds();
        x.size(3, 4);
        due.is("P3 x -1", x.draw(-1, 0, 2, 3, 1), -2);
        due.is("P3 y -1", x.draw(0, -1, 2, 3, 1), -2);
        due.is("P3 u W", x.draw(0, 0, 3, 3, 1), -2);
        due.is("P3 v H", x.draw(0, 0, 2, 4, 1), -2);
        due.is("P3 all right of it", x.draw(3, 0, 3, 0, 1), -2);
        due.is("P3 all above it", x.draw(0, 4, 0, 4, 1), -2);
        due.is("P3 all left of it", x.draw(-1, 0, -1, 0, 1), -2);
        due.is("P3 all below it", x.draw(0, -1, 0, -1, 1), -2);
        due.is("P3 none is drawn", x.many(3), 0);
        due.is("P3 the whole", x.draw(0, 0, 2, 3, 1), 12);
    }

    private static void drawWithNumbersThatWrapAround() {
        PieceMoulds x = new PieceMoulds();
        due.is("P3 MIN to MAX", x.draw(MIN, MIN, MAX, MAX, 1), -2);
        due.is("P3 MAX to MIN", x.draw(MAX, 0, MIN, 0, 1), -1);
        due.is("P3 up to MAX", x.draw(0, 0, MAX, MAX, 1), -2);
        due.is("P3 MAX alone", x.draw(MAX, MAX, MAX, MAX, 1), -2);
        due.is("P3 MIN alone", x.draw(MIN, MIN, MIN, MIN, 1), -2);
        due.is("P3 a row above by 2^32 / 12", x.draw(0, 357913942, 0, 357913942, 1), -2);
    }

    private static void drawFirstRefusal() {
        PieceMoulds x = new PieceMoulds();
        due.is("P3 the sort ahead of the CELL", x.draw(0, 0, 8, 0, 5), -1);
        due.is("P3 the order of x, u ahead of the CELL", x.draw(9, 0, 8, 0, 1), -1);
        due.is("P3 the order of y, v ahead of the CELL", x.draw(0, 0, 0, -1, 1), -1);
        due.is("P3 the CELL alone", x.draw(8, 0, 9, 0, 1), -2);
    }

    private static void refusedDrawChangesNoCell() {
        PieceMoulds x = Picture.drawn("0G/CV");
        x.draw(0, 0, 2, 1, 2);
        x.draw(0, 0, 1, 1, 5);
        x.draw(1, 1, 0, 0, 2);
        due.is("P3 CORE", x.cell(0, 0, 0), 1);
        due.is("P3 VENT", x.cell(1, 0, 0), 4);
        due.is("P3 clay", x.cell(0, 1, 0), 10);
        due.is("P3 GATE", x.cell(1, 1, 0), 3);
    }

    private static void cellOutsideByOne() {
        PieceMoulds x = new PieceMoulds();
        x.size(3, 4);
        int[][] outside = {{-1, 0}, {3, 0}, {0, -1}, {0, 4}, {3, 4}, {-1, -1}, {MIN, 0}, {0, MAX}, {MAX, MIN}};
        for (int[] c : outside) {
            due.is("P4 sort at " + c[0] + ", " + c[1], x.cell(c[0], c[1], 0), -1);
            due.is("P4 fate at " + c[0] + ", " + c[1], x.cell(c[0], c[1], 1), -1);
        }
        due.is("P4 the last", x.cell(2, 3, 0), 0);
    }

    private static void cellOfNoSuchWhat() {
        PieceMoulds x = new PieceMoulds();
        for (int what : new int[] {-1, 2, 3, 5, MIN, MAX}) {
            due.is("P4 what " + what, x.cell(0, 0, what), -1);
        }
    }

    private static void cellOfCoreAndClay() {
        PieceMoulds x = Picture.drawn("0123G/4567C");
        due.same("P4 only the GATE is CAST", Picture.fates(x), "----#/-----");
        for (int k = 0; k < 8; k++) {
            due.is("P4 clay " + k, x.cell(k % 4, k < 4 ? 1 : 0, 0), 10 + k);
        }
    }

    private static void cellOfEachHollow() {
        due.same("P4 DRY", Picture.fates(Picture.drawn(".V/CC")), "dd/--");
        due.same("P4 CAST", Picture.fates(Picture.drawn(".V/CG")), "##/-#");
        due.same("P4 AIR", Picture.fates(Picture.drawn(".C/.G")), "a-/##");
        PieceMoulds x = Picture.drawn(".C/.G");
        x.repair(0, 1);
        due.same("P4 REPAIRED", Picture.fates(x), "r-/##");
    }
}
