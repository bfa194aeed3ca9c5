import java.util.ArrayList;
import java.util.Arrays;
import java.util.List;

/**
 * The document told a second time, as slowly and as near to its words as can be, so that ModelTest
 * can hold the program's answers against it. It works everything out anew at each call.
 */
final class Model {
    private int w = 8;
    private int h = 8;
    private int[][] sort = new int[8][8];
    private boolean[][] repaired = new boolean[8][8];
    private final List<int[]> lots = new ArrayList<>();
    private int[] latest = null;
    private final StringBuilder tape = new StringBuilder();
    private List<int[]> rules = new ArrayList<>();
    private int fault = -1;
    private final List<Integer> vessels = new ArrayList<>();
    private final List<int[]> told = new ArrayList<>();
    private int status = 0;

    private int say(int answer) {
        status = answer < 0 ? answer : 0;
        return answer;
    }

    int size(int nw, int nh) {
        if (nw < 2 || nw > 12 || nh < 2 || nh > 12) return say(-1);
        w = nw;
        h = nh;
        sort = new int[w][h];
        repaired = new boolean[w][h];
        return say(0);
    }

    private boolean in(int x, int y) {
        return x >= 0 && y >= 0 && x < w && y < h;
    }

    int draw(int x, int y, int u, int v, int s) {
        boolean known = s == 0 || s == 1 || s == 2 || s == 3 || s == 4 || (s >= 10 && s <= 17);
        if (!known || u < x || v < y) return say(-1);
        if (!in(x, y) || !in(u, v)) return say(-2);
        int n = 0;
        for (int i = x; i <= u; i++) for (int j = y; j <= v; j++) { sort[i][j] = s; n++; }
        repaired = new boolean[w][h];
        return say(n);
    }

    private boolean hollow(int x, int y) {
        return in(x, y) && (sort[x][y] == 0 || sort[x][y] == 3 || sort[x][y] == 4);
    }

    private void join(int x, int y, int floor, boolean[][] seen) {
        if (y < floor || !hollow(x, y) || seen[x][y]) return;
        seen[x][y] = true;
        join(x + 1, y, floor, seen);
        join(x - 1, y, floor, seen);
        join(x, y + 1, floor, seen);
        join(x, y - 1, floor, seen);
    }

    private boolean joined(int x, int y, int floor, boolean vents) {
        boolean[][] seen = new boolean[w][h];
        join(x, y, floor, seen);
        for (int i = 0; i < w; i++) for (int j = 0; j < h; j++) {
            if (seen[i][j] && (sort[i][j] == 3 || (vents && sort[i][j] == 4))) return true;
        }
        return false;
    }

    private int fate(int x, int y) {
        if (sort[x][y] == 2) return 1;
        if (!hollow(x, y)) return 0;
        if (repaired[x][y]) return 5;
        if (!joined(x, y, 0, false)) return 2;
        return joined(x, y, y, true) ? 1 : 3;
    }

    private boolean metal(int x, int y) {
        return in(x, y) && (fate(x, y) == 1 || fate(x, y) == 5);
    }

    int cell(int x, int y, int what) {
        if (!in(x, y) || what < 0 || what > 1) return -1;
        return what == 0 ? sort[x][y] : fate(x, y);
    }

    int repair(int x, int y) {
        if (!in(x, y)) return say(-2);
        int f = fate(x, y);
        boolean beside = metal(x + 1, y) || metal(x - 1, y) || metal(x, y + 1) || metal(x, y - 1);
        if ((f != 2 && f != 3) || !beside) return say(-3);
        repaired[x][y] = true;
        return say(many(5));
    }

    int wall(int x, int y) {
        if (x == -1 && y == -1) {
            int best = 0;
            for (int i = 0; i < w; i++) for (int j = 0; j < h; j++) {
                int one = wall(i, j);
                if (one > 0 && (best == 0 || one < best)) best = one;
            }
            return best;
        }
        if (!in(x, y)) return -1;
        if (!metal(x, y)) return 0;
        int left = x, right = x, low = y, high = y;
        while (metal(left - 1, y)) left--;
        while (metal(right + 1, y)) right++;
        while (metal(x, low - 1)) low--;
        while (metal(x, high + 1)) high++;
        return Math.min(right - left + 1, high - low + 1);
    }

    int many(int what) {
        if (what < 0 || what > 6) return -1;
        int n = 0;
        for (int i = 0; i < w; i++) for (int j = 0; j < h; j++) {
            int f = fate(i, j);
            int s = sort[i][j];
            boolean yes = what == 0 ? f == 1 || f == 5 : what == 1 ? f == 2 : what == 2 ? f == 3
                    : what == 3 ? s == 1 : what == 4 ? s == 2 : what == 5 ? f == 5 : s >= 10;
            if (yes) n++;
        }
        return n;
    }

    private boolean drawable(int piece, int way, List<int[]> off) {
        int dx = way == 0 ? 1 : way == 2 ? -1 : 0;
        int dy = way == 1 ? 1 : way == 3 ? -1 : 0;
        for (int i = 0; i < w; i++) for (int j = 0; j < h; j++) {
            if (sort[i][j] != 10 + piece) continue;
            for (int x = i, y = j; in(x, y); x += dx, y += dy) {
                int s = sort[x][y];
                boolean free = s == 10 + piece || s == 3 || s == 4;
                for (int[] o : off) if (s == 10 + o[0]) free = true;
                if (!free) return false;
            }
        }
        return true;
    }

    private int pieces() {
        int n = 0;
        for (int k = 0; k < 8; k++) if (isThere(k)) n++;
        return n;
    }

    private boolean isThere(int k) {
        for (int[] column : sort) for (int s : column) if (s == 10 + k) return true;
        return false;
    }

    private List<int[]> order() {
        List<int[]> off = new ArrayList<>();
        boolean more = true;
        while (more) {
            more = false;
            for (int k = 0; k < 8 && !more; k++) {
                boolean gone = false;
                for (int[] o : off) if (o[0] == k) gone = true;
                if (gone || !isThere(k)) continue;
                for (int d = 0; d < 4 && !more; d++) {
                    if (drawable(k, d, off)) {
                        off.add(new int[] {k, d});
                        more = true;
                    }
                }
            }
        }
        return off;
    }

    int off(int i, int what) {
        List<int[]> o = order();
        if (i == -1) {
            return what == 0 ? o.size() : what == 1 ? pieces() - o.size() : what == 2 ? pieces() : -1;
        }
        if (i < 0 || i >= o.size() || what < 0 || what > 1) return -1;
        return o.get(i)[what];
    }

    int lot(int tin, int lead, int price, int units) {
        if (tin < 0 || lead < 0 || (long) tin + lead > 1000) return say(-1);
        if (price < 0 || price > 1000 || units < 0 || units > 40) return say(-1);
        if (lots.size() == 6) return say(-5);
        lots.add(new int[] {tin, lead, price, units});
        return say(lots.size() - 1);
    }

    private int bestPrice;
    private int[] bestRow;

    private void tryRows(int[] row, int at, int rest, int[] bounds) {
        if (at == lots.size()) {
            if (rest != 0) return;
            int tin = 0, lead = 0, price = 0;
            for (int i = 0; i < at; i++) {
                tin += row[i] * lots.get(i)[0];
                lead += row[i] * lots.get(i)[1];
                price += row[i] * lots.get(i)[2];
            }
            int n = bounds[0];
            if (tin < bounds[1] * n || tin > bounds[2] * n || lead > bounds[3] * n) return;
            if (bestRow == null || price < bestPrice) {
                bestPrice = price;
                bestRow = Arrays.copyOf(row, 6);
            }
            return;
        }
        for (int u = 0; u <= rest && u <= lots.get(at)[3]; u++) {
            row[at] = u;
            tryRows(row, at + 1, rest - u, bounds);
        }
    }

    int mix(int n, int a, int b, int c) {
        if (n < 1 || n > 40 || a > b || a < 0 || b > 1000 || c < 0 || c > 1000) return say(-1);
        bestRow = null;
        tryRows(new int[6], 0, n, new int[] {n, a, b, c});
        if (bestRow == null) return say(-6);
        latest = bestRow;
        return say(bestPrice);
    }

    int mixed(int lot) {
        if (latest == null || lot < -1 || lot >= lots.size()) return -1;
        return lot == -1 ? Arrays.stream(latest).sum() : latest[lot];
    }

    int pour() {
        if (latest == null) return say(-6);
        int n = mixed(-1);
        for (int i = 0; i < lots.size(); i++) lots.get(i)[3] -= latest[i];
        latest = null;
        return say(n);
    }

    int left(int lot) {
        return lot < 0 || lot >= lots.size() ? -1 : lots.get(lot)[3];
    }

    int feed(int a, int b, int c, int d, int e) {
        if (tape.length() > 280) return -1;
        for (int number : new int[] {a, b, c, d, e}) {
            tape.append((char) (number >> 24 & 255)).append((char) (number >> 16 & 255));
            tape.append((char) (number >> 8 & 255)).append((char) (number & 255));
        }
        return tape.length();
    }

    int end(int n) {
        if (n < 0 || n > tape.length()) return -1;
        tape.setLength(n);
        return n;
    }

    private static final List<String> NAMES = List.of(
            "tin", "lead", "copper", "wall", "air", "dry", "stuck", "pieces", "spacers");

    int rules() {
        String text = tape.toString();
        tape.setLength(0);
        List<String> tokens = new ArrayList<>();
        List<Integer> places = new ArrayList<>();
        java.util.regex.Matcher m = java.util.regex.Pattern
                .compile("[a-z]+|[0-9]+|[^ ]", java.util.regex.Pattern.DOTALL).matcher(text);
        while (m.find()) {
            tokens.add(m.group());
            places.add(m.start());
        }
        tokens.add("");
        places.add(text.length());
        List<int[]> made = new ArrayList<>();
        int bad = tokens.size() == 1 ? -1 : parse(tokens, made);
        fault = bad < 0 ? -1 : places.get(bad);
        if (bad >= 0) return say(-6);
        rules = made;
        return say(made.size());
    }

    /** The index of the token that can't go on, or -1. */
    private static int parse(List<String> tokens, List<int[]> made) {
        int t = 0;
        while (true) {
            int kind = NAMES.indexOf(tokens.get(t));
            if (kind < 0 || made.size() == 20) return t;
            t++;
            String form = kind < 3 ? "from # to #" : kind == 8 ? "# every #" : "#";
            int[] rule = {kind, 0, 0};
            int numbers = 0;
            for (String due : form.split(" ")) {
                String token = tokens.get(t);
                if (due.equals("#")) {
                    if (!token.matches("[0-9]+")) return t;
                    java.math.BigInteger big = new java.math.BigInteger(token);
                    if (big.bitLength() > 20 || big.intValue() > 1000) return t;
                    int least = numbers == 0 ? 0 : kind == 8 ? 1 : rule[1];
                    if (big.intValue() < least) return t;
                    numbers++;
                    rule[numbers] = big.intValue();
                } else if (!token.equals(due)) {
                    return t;
                }
                t++;
            }
            made.add(rule);
            if (tokens.get(t).isEmpty()) return -1;
            if (!tokens.get(t).equals(";")) return t;
            t++;
        }
    }

    int fault() {
        return fault;
    }

    private boolean breaks(int[] r) {
        if (r[0] < 3) {
            if (latest == null) return true;
            int n = 0, sum = 0;
            for (int i = 0; i < lots.size(); i++) {
                int[] l = lots.get(i);
                n += latest[i];
                sum += latest[i] * (r[0] == 0 ? l[0] : r[0] == 1 ? l[1] : 1000 - l[0] - l[1]);
            }
            return sum < r[1] * n || sum > r[2] * n;
        }
        if (r[0] == 3) return wall(-1, -1) < r[1];
        if (r[0] == 8) return many(4) * r[2] < r[1] * many(3);
        int n = r[0] == 4 ? many(2) : r[0] == 5 ? many(1) : r[0] == 6 ? off(-1, 1) : off(-1, 2);
        return n > r[1];
    }

    int broken(int i) {
        if (i < 0) return -1;
        for (int k = i; k < rules.size(); k++) if (breaks(rules.get(k))) return k;
        return -1;
    }

    int vessel(int marks) {
        if (marks < 0 || marks > 99_999_999) return say(-1);
        if (vessels.size() == 40) return say(-5);
        vessels.add(marks);
        return say(vessels.size() - 1);
    }

    private boolean noVessel(int v) {
        return v < 0 || v >= vessels.size();
    }

    int like(int a, int b) {
        if (noVessel(a) || noVessel(b)) return -1000;
        String one = String.format("%08d", vessels.get(a));
        String two = String.format("%08d", vessels.get(b));
        int sum = 0;
        for (int i = 0; i < 8; i++) {
            if (one.charAt(i) == '0' || two.charAt(i) == '0') continue;
            sum += one.charAt(i) == two.charAt(i) ? 1 : -1;
        }
        return sum;
    }

    int tell(int vessel, int workshop, int known) {
        if (workshop < -1 || workshop > 7 || known < 0 || known > 3000) return say(-1);
        if (noVessel(vessel)) return say(-2);
        if (told.size() == 150) return say(-5);
        told.add(new int[] {vessel, workshop, known});
        return say(told.size());
    }

    int of(int vessel, int known) {
        if (noVessel(vessel) || known < 0 || known > 3000) return -2;
        int answer = -1;
        for (int[] t : told) if (t[0] == vessel && t[2] <= known) answer = t[1];
        return answer;
    }

    int by(int vessel, int known) {
        if (noVessel(vessel) || known < 0 || known > 3000) return -2;
        int best = -1;
        long bestSum = 0, bestN = 1;
        for (int k = 0; k < 8; k++) {
            long sum = 0, n = 0;
            for (int v = 0; v < vessels.size(); v++) {
                if (v == vessel || of(v, known) != k) continue;
                sum += like(vessel, v);
                n++;
            }
            if (n > 0 && (best < 0 || sum * bestN > bestSum * n)) {
                best = k;
                bestSum = sum;
                bestN = n;
            }
        }
        return best;
    }

    int count(int what) {
        int[] counts = {w, h, lots.size(), rules.size(), vessels.size(), told.size(), tape.length()};
        return what < 0 || what > 6 ? -1 : counts[what];
    }

    int status() {
        return status;
    }
}
