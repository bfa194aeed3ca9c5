/** All that calls which only look can tell of an object of at most 3 times 3 cells, as one text. */
final class Snapshot {
    private Snapshot() {
    }

    static String of(PieceMoulds x) {
        return mould(x) + metal(x) + rules(x) + tape(x) + vessels(x);
    }

    static String mould(PieceMoulds x) {
        StringBuilder all = new StringBuilder("size ").append(x.count(0)).append(' ').append(x.count(1));
        for (int i = 0; i < 9; i++) {
            all.append(' ').append(x.cell(i % 3, i / 3, 0)).append(',').append(x.cell(i % 3, i / 3, 1));
            all.append(',').append(x.wall(i % 3, i / 3));
        }
        all.append(" wall ").append(x.wall(-1, -1)).append(" many");
        for (int what = 0; what < 7; what++) {
            all.append(' ').append(x.many(what));
        }
        return all.append(" off ").append(Picture.order(x)).append('\n').toString();
    }

    static String metal(PieceMoulds x) {
        StringBuilder all = new StringBuilder("lots ").append(x.count(2)).append(" mix ").append(x.mixed(-1));
        for (int i = 0; i < 6; i++) {
            all.append(' ').append(x.mixed(i)).append(',').append(x.left(i));
        }
        return all.append('\n').toString();
    }

    static String rules(PieceMoulds x) {
        StringBuilder all = new StringBuilder("rules ").append(x.count(3)).append(" broken");
        for (int i = 0; i < 4; i++) {
            all.append(' ').append(x.broken(i));
        }
        return all.append('\n').toString();
    }

    static String tape(PieceMoulds x) {
        return "tape " + x.count(6) + " fault " + x.fault() + "\n";
    }

    static String vessels(PieceMoulds x) {
        StringBuilder all = new StringBuilder("vessels ").append(x.count(4)).append(" told ").append(x.count(5));
        for (int i = 0; i < 9; i++) {
            all.append(' ').append(x.like(i / 3, i % 3)).append(',').append(x.of(i / 3, i % 3 * 10));
            all.append(',').append(x.by(i / 3, i % 3 * 10));
        }
        return all.append('\n').toString();
    }
}
