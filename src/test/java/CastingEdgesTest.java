/** The edges of promises 4 to 7, a test for each: where metal comes, where air is caught, repairs, walls. */
public final class CastingEdgesTest {
    private static final int MIN = Integer.MIN_VALUE;
    private static final int MAX = Integer.MAX_VALUE;
    private static final Due due = new Due();

    public static void main(String[] args) {
        metal();
        air();
        cellsAtOppositeEdgesAreNotBesideOneAnother();
        theLongestPassage();
        repairs();
        walls();
        many();
        due.end();
    }

    private static void fates(String what, String picture, String want) {
        due.same(what + " of " + picture, Picture.fates(Picture.drawn(picture)), want);
    }

    private static void metal() {
        fates("P4 no GATE: all DRY", "..V/...", "ddd/ddd");
        fates("P4 a GATE alone", "GC/CC", "#-/--");
        fates("P4 over OPEN", "G./CC", "##/--");
        fates("P4 over a VENT", "GV./CCC", "###/---");
        fates("P4 over another GATE", "GG./CCC", "###/---");
        fates("P4 not over CORE", "GC./CCC", "#-d/---");
        fates("P4 not over a SPACER, which is CAST", "GS./CCC", "##d/---");
        fates("P4 not over clay", "G7./CCC", "#-d/---");
        fates("P4 a SPACER needs no GATE", "S./..", "#d/dd");
        fates("P4 a corner joins nothing", "GC/C.", "#-/-d");
        fates("P4 down from the highest row", "CG/C./C.", "-#/-#/-#");
        fates("P4 sideways to both sides", ".G./CCC", "###/---");
        fates("P4 a VENT without metal is DRY", "VCG/CCC", "d-#/---");
    }

    private static void air() {
        fates("P4 no VENT above", "C.C/G.C", "-a-/##-");
        fates("P4 the CELL itself is a VENT", "CVC/G.C", "-#-/##-");
        fates("P4 the CELL itself is a GATE", "CGC/G.C", "-#-/##-");
        fates("P4 a VENT in its own row", "C.V/G.C", "-##/##-");
        fates("P4 a GATE in its own row", "G.C/..C", "##-/##-");
        fates("P4 a VENT in the row below does not help", "C.C/G.V", "-a-/###");
        fates("P4 a VENT in the row above", "CCV/C../G.C", "--#/-##/##-");
        fates("P4 joined only over a lower row", "GC./...", "#-a/###");
        fates("P4 joined over a higher row", "VVV/GC.", "###/#-#");
        fates("P4 a higher row of AIR joins as well", "..../GCC.", "aaaa/#--#");
        fates("P4 a VENT behind CORE does not help", "CV/CC/.C/.G", "-d/--/a-/##");
        fates("P4 a VENT over a corner does not help", "VC/C./G.", "d-/-a/##");
        fates("P4 a SPACER shuts it in", ".SV/..G", "a##/###");
        fates("P4 the higher of two rows alone", "C.C/..G/..C", "-a-/###/##-");
        fates("P4 row 0 is the lowest", "CC/.G/.C", "--/##/#-");
    }

    /** Column 11 of one row and column 0 of the next lie side by side in a row of numbers alone. */
    private static void cellsAtOppositeEdgesAreNotBesideOneAnother() {
        String closed = "CCCCCCCCCCCC/";
        fates("P4 GATE at the right", closed + ".CCCCCCCCCCC/CCCCCCCCCCCG", "------------/d-----------/-----------#");
        fates("P4 GATE at the left", closed + "GCCCCCCCCCCC/CCCCCCCCCCC.", "------------/#-----------/-----------d");
        fates("P4 GATE at the top", "CG/CC/.C/CC/CC/CC/CC/CC/CC/CC/CC/C.", "-#/--/d-/--/--/--/--/--/--/--/--/-d");
        PieceMoulds x = Picture.drawn(closed + ".CCCCCCCCCCC/CCCCCCCCCCCS");
        due.is("P5 CAST at the right is not beside the left", x.repair(0, 1), -3);
        x = Picture.drawn(closed + "SCCCCCCCCCCC/CCCCCCCCCCC.");
        due.is("P5 CAST at the left is not beside the right", x.repair(11, 0), -3);
        x = Picture.drawn(closed + "SSCCCCCCCCCC/CCCCCCCCCCCS");
        due.is("P6 a row does not go on at the left", x.wall(11, 0), 1);
        x = Picture.drawn("SSSSCCCCSSSS/SSSSCCCCSSSS/SSSSCCCCSSSS/SSSSCCCCSSSS/CCCCCCCCCCCC");
        due.is("P6 four and four of a row are not eight", x.wall(11, 2), 4);
    }

    private static void theLongestPassage() {
        PieceMoulds x = new PieceMoulds();
        x.size(12, 12);
        for (int y = 1; y < 12; y += 2) {
            x.draw(0, y, 11, y, 1);
            x.draw(y % 4 == 1 ? 11 : 0, y, y % 4 == 1 ? 11 : 0, y, 0);
        }
        x.draw(0, 0, 0, 0, 3);
        due.is("P7 it fills the GATE's row", x.many(0), 12);
        due.is("P7 all above is AIR", x.many(2), 66);
        due.is("P7 none is DRY", x.many(1), 0);
        x.draw(0, 10, 0, 10, 4);
        due.is("P7 with a VENT in the highest row", x.many(0), 77);
        due.is("P7 shut in by the roof above it", x.many(2), 1);
        x.draw(0, 0, 11, 11, 3);
        due.is("P7 all are GATES", x.many(0), 144);
        x.draw(0, 0, 11, 11, 0);
        due.is("P7 no GATE", x.many(1), 144);
        x.draw(5, 11, 5, 11, 3);
        due.is("P7 one GATE at the top", x.many(0), 144);
        x.draw(5, 0, 5, 0, 3);
        x.draw(5, 11, 5, 11, 0);
        due.is("P7 one GATE at the bottom", x.many(0), 12);
        due.is("P7 AIR above", x.many(2), 132);
    }

    private static void repairs() {
        repairFromEachSide();
        repairFromNoCorner();
        repairOutside();
        repairOfEachSort();
        repairAirAndDry();
        repairAllButOne();
        repairLeadsNoMetalOn();
        repairsGoWithTheDrawing();
        repairsStayIfRefused();
    }

    private static void repairFromEachSide() {
        String[] pictures = {"CCC/C.S/CCC", "CSC/C.C/CCC", "CCC/S.C/CCC", "CCC/C.C/CSC"};
        for (String picture : pictures) {
            due.is("P5 beside CAST in " + picture, Picture.drawn(picture).repair(1, 1), 1);
        }
    }

    private static void repairFromNoCorner() {
        due.is("P5 corners alone", Picture.drawn("SCS/C.C/SCS").repair(1, 1), -3);
        due.is("P5 two CELLS away", Picture.drawn("..S/CCC").repair(0, 1), -3);
        due.is("P5 at the edge, nothing beside", Picture.drawn("../..").repair(0, 0), -3);
    }

    private static void repairOutside() {
        PieceMoulds x = Picture.drawn("SSS/SSS");
        int[][] outside = {{-1, 0}, {3, 0}, {0, -1}, {0, 2}, {-1, -1}, {MIN, MAX}, {MAX, 0}, {0, MIN}};
        for (int[] c : outside) {
            due.is("P5 no CELL " + c[0] + ", " + c[1], x.repair(c[0], c[1]), -2);
        }
        due.is("P5 none is REPAIRED", x.many(5), 0);
    }

    private static void repairOfEachSort() {
        PieceMoulds x = Picture.drawn("SSSSSS/G.CS7V/SSSSSS");
        due.is("P5 a GATE, CAST", x.repair(0, 1), -3);
        due.is("P5 OPEN, CAST", x.repair(1, 1), -3);
        due.is("P5 CORE", x.repair(2, 1), -3);
        due.is("P5 SPACER", x.repair(3, 1), -3);
        due.is("P5 clay", x.repair(4, 1), -3);
        due.is("P5 a VENT that is DRY", x.repair(5, 1), 1);
        due.is("P5 it is REPAIRED already", x.repair(5, 1), -3);
        due.is("P5 its sort stays", x.cell(5, 1, 0), 4);
    }

    private static void repairAirAndDry() {
        PieceMoulds x = Picture.drawn("..C./G.C.");
        due.same("P5 ahead", Picture.fates(x), "aa-d/##-d");
        due.is("P5 AIR", x.repair(1, 1), 1);
        due.is("P5 AIR beside it", x.repair(0, 1), 2);
        due.is("P5 DRY behind CORE", x.repair(3, 0), -3);
        due.same("P5 then", Picture.fates(x), "rr-d/##-d");
        due.is("P7 AIR is none any more", x.many(2), 0);
        due.is("P7 DRY", x.many(1), 2);
    }

    private static void repairAllButOne() {
        PieceMoulds x = new PieceMoulds();
        x.size(12, 12);
        x.draw(0, 0, 0, 0, 2);
        for (int i = 1; i < 144; i++) {
            due.is("P5 REPAIR " + i, x.repair(i % 12, i / 12), i);
        }
        due.is("P7 all are CAST", x.many(0), 144);
        due.is("P7 all but one are REPAIRED", x.many(5), 143);
        due.is("P7 none is DRY", x.many(1), 0);
        due.is("P6 WALL", x.wall(-1, -1), 12);
        due.is("P5 the last one again", x.repair(11, 11), -3);
    }

    private static void repairLeadsNoMetalOn() {
        PieceMoulds x = Picture.drawn("S../CCC");
        due.is("P5 REPAIR", x.repair(1, 1), 1);
        due.same("P5 the next one stays DRY", Picture.fates(x), "#rd/---");
    }

    private static void repairsGoWithTheDrawing() {
        PieceMoulds x = Picture.drawn("S../.C.");
        x.repair(1, 1);
        x.repair(2, 1);
        due.is("P5 a CELL elsewhere, as it was", x.draw(1, 0, 1, 0, 1), 1);
        due.same("P5 all are away", Picture.fates(x), "#dd/d-d");
        due.is("P5 REPAIRED", x.many(5), 0);
        due.is("P5 anew", x.repair(1, 1), 1);
        due.is("P5 the same size", x.size(3, 2), 0);
        due.is("P5 all are away again", x.many(5), 0);
        due.is("P5 nothing to cast on", x.repair(1, 1), -3);
    }

    private static void repairsStayIfRefused() {
        PieceMoulds x = Picture.drawn("S../.C.");
        x.repair(1, 1);
        due.is("P5 a sort that can't be", x.draw(1, 1, 1, 1, 18), -1);
        due.is("P5 a CELL that is not there", x.draw(1, 1, 3, 1, 0), -2);
        due.is("P5 a size that can't be", x.size(2, 13), -1);
        due.is("P5 a REPAIR that can't be", x.repair(1, 0), -3);
        due.is("P5 one that is not there", x.repair(3, 0), -2);
        due.same("P5 it stays", Picture.fates(x), "#rd/d-d");
    }

    private static void walls() {
        wallWithoutCast();
        wallOutside();
        wallOfTheMould();
        wallLesserOfRowAndColumn();
        wallBrokenByWhatIsNotCast();
        wallLeastAtEachCorner();
        wallOfRepairs();
    }

    private static void wallWithoutCast() {
        PieceMoulds x = Picture.drawn("..C/V7C");
        due.is("P6 none is CAST", x.wall(-1, -1), 0);
        for (int i = 0; i < 6; i++) {
            due.is("P6 cell " + i, x.wall(i % 3, i / 3), 0);
        }
        due.is("P6 AIR", Picture.drawn("..C/..G").wall(0, 1), 0);
    }

    private static void wallOutside() {
        PieceMoulds x = Picture.drawn("SSS/SSS");
        int[][] outside = {{3, 0}, {0, 2}, {-1, 0}, {-1, 1}, {0, -1}, {2, -1}, {-2, -1}, {-1, -2}, {-2, -2},
            {MIN, MIN}, {MAX, MAX}, {-1, MAX}, {MIN, -1}};
        for (int[] c : outside) {
            due.is("P6 no CELL " + c[0] + ", " + c[1], x.wall(c[0], c[1]), -1);
        }
        due.is("P6 of the mould", x.wall(-1, -1), 2);
    }

    private static void wallOfTheMould() {
        PieceMoulds x = new PieceMoulds();
        x.size(12, 12);
        x.draw(0, 0, 11, 11, 2);
        due.is("P6 the thickest", x.wall(-1, -1), 12);
        due.is("P6 at a corner", x.wall(0, 0), 12);
        due.is("P6 at the other", x.wall(11, 11), 12);
        x.size(12, 2);
        x.draw(0, 0, 11, 1, 2);
        due.is("P6 12, 2", x.wall(-1, -1), 2);
        x.size(2, 12);
        x.draw(0, 0, 1, 11, 2);
        due.is("P6 2, 12", x.wall(-1, -1), 2);
    }

    private static void wallLesserOfRowAndColumn() {
        PieceMoulds x = Picture.drawn("CSCC/CSCC/SSSS");
        due.is("P6 a column of 3 in a row of 4", x.wall(1, 0), 3);
        due.is("P6 a row of 1", x.wall(1, 2), 1);
        due.is("P6 a column of 1", x.wall(3, 0), 1);
        due.is("P6 first of its row", x.wall(0, 0), 1);
    }

    private static void wallBrokenByWhatIsNotCast() {
        for (String sort : new String[] {"C", "7", "."}) {
            PieceMoulds x = Picture.drawn("SSSSS/SS" + sort + "SS/SSSSS");
            due.is("P6 left of " + sort, x.wall(1, 1), 2);
            due.is("P6 right of " + sort, x.wall(4, 1), 2);
            due.is("P6 above " + sort, x.wall(2, 2), 1);
            due.is("P6 below " + sort, x.wall(2, 0), 1);
            due.is("P6 of the mould", x.wall(-1, -1), 1);
        }
        PieceMoulds air = Picture.drawn("S.S/SGS");
        due.is("P6 AIR breaks a row", air.wall(0, 1), 1);
        due.is("P6 below AIR", air.wall(1, 0), 1);
    }

    private static void wallLeastAtEachCorner() {
        String[] pictures = {"CCCC/CSSC/CSSC/SCCC", "CCCC/CSSC/CSSC/CCCS", "SCCC/CSSC/CSSC/CCCC", "CCCS/CSSC/CSSC/CCCC"};
        for (String picture : pictures) {
            due.is("P6 a spur in " + picture, Picture.drawn(picture).wall(-1, -1), 1);
        }
        due.is("P6 without", Picture.drawn("CCCC/CSSC/CSSC/CCCC").wall(-1, -1), 2);
    }

    private static void wallOfRepairs() {
        PieceMoulds x = Picture.drawn("S./S.");
        due.is("P6 a row of 1", x.wall(0, 0), 1);
        x.repair(1, 0);
        due.is("P6 a row of 2", x.wall(0, 0), 2);
        due.is("P6 the REPAIR's own", x.wall(1, 0), 1);
        due.is("P6 the least", x.wall(-1, -1), 1);
        x.repair(1, 1);
        due.is("P6 all of 2", x.wall(-1, -1), 2);
    }

    private static void many() {
        manyOfNoSuchWhat();
        manyOfOneSortAlone();
        manyOfEach();
    }

    private static void manyOfNoSuchWhat() {
        PieceMoulds x = Picture.drawn("SG./CV7");
        for (int what : new int[] {-1, -2, 7, 8, MIN, MAX}) {
            due.is("P7 what " + what, x.many(what), -1);
        }
    }

    private static void manyOfOneSortAlone() {
        int[] sorts = {0, 1, 2, 3, 4, 10, 11, 12, 13, 14, 15, 16, 17};
        int[][] of = {{1}, {3}, {0, 4}, {0}, {1}, {6}, {6}, {6}, {6}, {6}, {6}, {6}, {6}};
        for (int i = 0; i < sorts.length; i++) {
            PieceMoulds x = new PieceMoulds();
            x.size(12, 12);
            x.draw(0, 0, 11, 11, sorts[i]);
            for (int what = 0; what < 7; what++) {
                boolean all = false;
                for (int one : of[i]) {
                    all |= one == what;
                }
                due.is("P7 sort " + sorts[i] + ", what " + what, x.many(what), all ? 144 : 0);
            }
        }
    }

    private static void manyOfEach() {
        PieceMoulds x = Picture.drawn("..C.S/G.C7V/CCC70");
        due.same("P7 fates", Picture.fates(x), "aa-d#/##--d/-----");
        int[] want = {3, 2, 2, 5, 1, 0, 3};
        x.repair(3, 2);
        x.repair(1, 2);
        int[] then = {5, 1, 1, 5, 1, 2, 3};
        for (int what = 0; what < 7; what++) {
            due.is("P7 with REPAIRS, what " + what, x.many(what), then[what]);
        }
        x.draw(0, 0, 0, 0, 1);
        for (int what = 0; what < 7; what++) {
            due.is("P7 without, what " + what, x.many(what), want[what]);
        }
    }
}
