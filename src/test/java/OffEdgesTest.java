/** The edges of promise 8, a test for each: which pieces come off, in which order and direction. */
public final class OffEdgesTest {
    private static final int MIN = Integer.MIN_VALUE;
    private static final int MAX = Integer.MAX_VALUE;
    private static final Due due = new Due();

    public static void main(String[] args) {
        howFarItIsFree();
        whatLiesInTheWay();
        whichIsNext();
        howManyPieces();
        placesThatAreNot();
        itFollowsTheDrawing();
        due.end();
    }

    /** r right, u up, l left, d down; behind '|' how many are STUCK. */
    private static void order(String what, String picture, String want) {
        due.same("P8 " + what + " " + picture, Picture.order(Picture.drawn(picture)), want);
    }

    private static void howFarItIsFree() {
        order("right alone", "CCC/C0V/CCC", "0r | 0");
        order("up alone", "CVC/C0C/CCC", "0u | 0");
        order("left alone", "CCC/V0C/CCC", "0l | 0");
        order("down alone", "CCC/C0C/CVC", "0d | 0");
        order("none", "CCC/C0C/CCC", "| 1");
        order("at the right edge", "CC/C0", "0r | 0");
        order("at the upper edge", "C0C/CCC", "0u | 0");
        order("at the left edge", "CCC/0CC/CCC", "0l | 0");
        order("at the lower edge", "CCC/C0C", "0d | 0");
        order("the lowest direction of all", "VVV/V0V/VVV", "0r | 0");
        order("the lowest but right", "VVV/V0C/VVV", "0u | 0");
        order("the lowest of left and down", "VCV/V0C/VVV", "0l | 0");
        order("the farthest is CORE", "CCCCCCCCCCCC/C0VVVVVVVVVC/CCCCCCCCCCCC", "| 1");
        order("the farthest is free", "CCCCCCCCCCCC/C0VVVVVVVVVV/CCCCCCCCCCCC", "0r | 0");
        order("it does not go on in the next row", "CCCCCCCCCCCC/CCCCCCCCCCC0", "0r | 0");
        order("nor in the row below", "CCCCCCCCCCCC/0CCCCCCCCCCC/CCCCCCCCCCCC", "0l | 0");
    }

    private static void whatLiesInTheWay() {
        order("OPEN", ".../.0./...", "| 1");
        order("CORE", "CCC/C0C/CCC", "| 1");
        order("SPACER", "SSS/S0S/SSS", "| 1");
        order("GATE", "GGG/G0G/GGG", "0r | 0");
        order("VENT", "VVV/V0V/VVV", "0r | 0");
        order("its own", "000/000", "0r | 0");
        order("its own, behind CORE", "C0C0/CCCC/CCCC", "0u | 0");
        order("its own, behind CORE on all sides", "CCCCC/C0C0C/CCCCC", "| 1");
        order("every CELL must be free", "CCC/C0V/CCC/C0C/CCC", "| 1");
        order("each in its own row", "CCC/C0V/CCC/C0V/CCC", "0r | 0");
        order("around the CORE", "000/0C0/000", "| 1");
        order("around it but for the left", "000/CC0/000", "0r | 0");
        order("one that is off", "CCC/C01/CCC", "1r 0r | 0");
        order("one that is STUCK", "CCCCC/C01C0/CCCC0", "| 2");
        order("another's CELL beyond its own", "CCCC/C010/CCCC", "| 2");
    }

    private static void whichIsNext() {
        order("the lower one", "01/CC", "0u 1r | 0");
        order("the lower one, to the right", "10/CC", "0r 1r | 0");
        order("the lower one again, once it is free", "CCCCC2/C01GGG/CCCCCC", "1r 0r 2r | 0");
        order("a chain", "CCCCCCCCC/C01234567/CCCCCCCCC", "7r 6r 5r 4r 3r 2r 1r 0r | 0");
        order("a chain the other way", "CCCCCCCCC/C76543210/CCCCCCCCC", "0r 1r 2r 3r 4r 5r 6r 7r | 0");
        order("the others, if the lowest is STUCK", "CCC1/C0C2/CCC3", "1r 2r 3r | 1");
        order("two that hold one another", "0011/0101/0011/0101/1100", "| 2");
        order("free by the second that is off", "CVCC/201C/CCCC", "0u 2l 1l | 0");
    }

    private static void howManyPieces() {
        order("no PIECE", "CG/.S", "| 0");
        PieceMoulds none = Picture.drawn("CG/.S");
        due.is("P8 none is there", none.off(-1, 2), 0);
        due.is("P8 no first", none.off(0, 0), -1);
        due.is("P8 no first direction", none.off(0, 1), -1);
        order("PIECE 7 alone", "C7/CC", "7r | 0");
        due.is("P8 one is there", Picture.drawn("C7/CC").off(-1, 2), 1);
        order("eight", "0123/4567", "0u 1u 2u 3r 4u 5u 6u 7r | 0");
        due.is("P8 eight are there", Picture.drawn("0123/4567").off(-1, 2), 8);
        PieceMoulds stuck = Picture.drawn("CCCCCCCCC/C0C1C2C3C/CCCCCCCCC/C4C5C6C7C/CCCCCCCCC");
        due.is("P8 eight are STUCK", stuck.off(-1, 1), 8);
        due.is("P8 of eight", stuck.off(-1, 2), 8);
        due.is("P8 none is off", stuck.off(-1, 0), 0);
        PieceMoulds whole = new PieceMoulds();
        whole.size(12, 12);
        whole.draw(0, 0, 11, 11, 13);
        due.same("P8 clay alone", Picture.order(whole), "3r | 0");
    }

    private static void placesThatAreNot() {
        PieceMoulds x = Picture.drawn("CCC1/C0C2/CCC3");
        due.is("P8 the last that is off", x.off(2, 0), 3);
        due.is("P8 its direction", x.off(2, 1), 0);
        due.is("P8 none behind it", x.off(3, 0), -1);
        due.is("P8 no direction behind it", x.off(3, 1), -1);
        for (int i : new int[] {-2, -3, 8, 9, MIN, MAX}) {
            due.is("P8 no PIECE " + i, x.off(i, 0), -1);
            due.is("P8 no direction of " + i, x.off(i, 1), -1);
        }
        for (int what : new int[] {-1, 2, 3, MIN, MAX}) {
            due.is("P8 of a PIECE what " + what, x.off(0, what), -1);
        }
        for (int what : new int[] {-1, 3, MIN, MAX}) {
            due.is("P8 of all what " + what, x.off(-1, what), -1);
        }
        PieceMoulds eight = Picture.drawn("0123/4567");
        due.is("P8 the eighth", eight.off(7, 0), 7);
        due.is("P8 no ninth", eight.off(8, 0), -1);
        due.is("P8 no ninth direction", eight.off(8, 1), -1);
    }

    private static void itFollowsTheDrawing() {
        PieceMoulds x = Picture.drawn("CCC/C0C/CCC");
        due.same("P8 STUCK", Picture.order(x), "| 1");
        x.draw(2, 1, 2, 1, 4);
        due.same("P8 a VENT at the right", Picture.order(x), "0r | 0");
        x.draw(2, 1, 2, 1, 9);
        due.same("P8 a draw that is refused", Picture.order(x), "0r | 0");
        x.draw(1, 1, 1, 1, 0);
        due.same("P8 drawn away", Picture.order(x), "| 0");
        x.size(3, 3);
        due.is("P8 a new size", x.off(-1, 2), 0);
    }
}
