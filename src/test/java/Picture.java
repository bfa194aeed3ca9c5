/**
 * Moulds drawn from a picture, and what became of their cells as another. Rows are parted by '/', the highest
 * comes first, as one sees it.
 */
final class Picture {
    private static final String SORTS = ".CSGV     01234567";
    private static final String FATES = "-#da?r";

    private Picture() {
    }

    /** '.' OPEN, 'C' CORE, 'S' SPACER, 'G' GATE, 'V' VENT, a digit the clay of that piece. */
    static PieceMoulds drawn(String picture) {
        PieceMoulds x = new PieceMoulds();
        String[] rows = picture.split("/");
        boolean sized = x.size(rows[0].length(), rows.length) == 0;
        assert sized : "no mould has the size of " + picture;
        for (int y = 0; y < rows.length; y++) {
            String row = rows[rows.length - 1 - y];
            for (int column = 0; column < row.length(); column++) {
                x.draw(column, y, column, y, SORTS.indexOf(row.charAt(column)));
            }
        }
        return x;
    }

    /** '#' CAST, 'd' DRY, 'a' AIR, 'r' REPAIRED, '-' neither. */
    static String fates(PieceMoulds x) {
        StringBuilder picture = new StringBuilder();
        for (int y = x.count(1) - 1; y >= 0; y--) {
            for (int column = 0; column < x.count(0); column++) {
                picture.append(FATES.charAt(x.cell(column, y, 1)));
            }
            picture.append(y > 0 ? "/" : "");
        }
        return picture.toString();
    }

    /** The pieces that are off with their directions, in order, and behind '|' how many are stuck. */
    static String order(PieceMoulds x) {
        StringBuilder order = new StringBuilder();
        for (int i = 0; i < x.off(-1, 0); i++) {
            order.append(x.off(i, 0)).append("ruld".charAt(x.off(i, 1))).append(' ');
        }
        return order.append("| ").append(x.off(-1, 1)).toString();
    }
}
