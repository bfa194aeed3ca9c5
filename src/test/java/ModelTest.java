import java.util.Random;

/** Long random runs, each answer held against the model's; wrong inputs come up among the right ones. */
public final class ModelTest {
    private static final String[] WORDS = {"tin", "lead", "copper", "wall", "air", "dry", "stuck", "pieces",
        "spacers", "from", "to", "every", ";", "0", "1", "3", "12", "200", "1000", "1001", "x", "%", "\u00ff"};
    private static final int[] ODD = {-1, -2, 13, 41, 1001, 3001, 100000000, Integer.MIN_VALUE, Integer.MAX_VALUE};

    private static Random random;
    private static Due due;
    private static PieceMoulds x;
    private static Model model;

    public static void main(String[] args) {
        due = new Due();
        int runs = args.length > 0 ? Integer.parseInt(args[0]) : 400;
        for (int run = 0; run < runs; run++) {
            random = new Random(run);
            x = new PieceMoulds();
            model = new Model();
            int side = run % 4;
            for (int call = 0; call < 500; call++) {
                callOne(run, side == 3 ? random.nextInt(3) : side);
            }
        }
        due.end();
    }

    private static void callOne(int run, int side) {
        String name = "run " + run + ": ";
        if (side == 0) mould(name);
        else if (side == 1) metalAndRules(name);
        else vessels(name);
        due.is(name + "status()", x.status(), model.status());
    }

    private static int some(int from, int to) {
        return random.nextInt(60) == 0 ? ODD[random.nextInt(ODD.length)] : from + random.nextInt(to - from + 1);
    }

    private static void mould(String name) {
        int a = some(0, model.count(0) - 1), b = some(0, model.count(1) - 1);
        switch (random.nextInt(24)) {
            case 0: {
                if (random.nextInt(4) != 0) break;
                int w = some(2, 12), h = some(2, 12);
                due.is(name + "size(" + w + ", " + h + ")", x.size(w, h), model.size(w, h));
                break;
            }
            case 1: case 2: case 3: case 4: case 5: {
                int u = Math.min(a + random.nextInt(4), some(0, 11)), v = Math.min(b + random.nextInt(4), some(0, 11));
                int[] sorts = {0, 0, 1, 1, 2, 3, 4, 10, 11, 12, 13, 14, 15, 16, 17, 5, 9, 18, -1};
                int s = sorts[random.nextInt(random.nextInt(8) == 0 ? sorts.length : 15)];
                due.is(name + "draw(" + a + ", " + b + ", " + u + ", " + v + ", " + s + ")",
                        x.draw(a, b, u, v, s), model.draw(a, b, u, v, s));
                break;
            }
            case 6: case 7: {
                int what = some(0, 1);
                due.is(name + "cell(" + a + ", " + b + ", " + what + ")", x.cell(a, b, what), model.cell(a, b, what));
                break;
            }
            case 8: case 9: case 10: case 11: case 12: case 13: case 14:
                due.is(name + "repair(" + a + ", " + b + ")", x.repair(a, b), model.repair(a, b));
                break;
            case 15: case 16: case 17:
                due.is(name + "wall(" + a + ", " + b + ")", x.wall(a, b), model.wall(a, b));
                break;
            case 18:
                due.is(name + "wall(-1, -1)", x.wall(-1, -1), model.wall(-1, -1));
                break;
            case 19: case 20: {
                int what = some(-1, 7);
                due.is(name + "many(" + what + ")", x.many(what), model.many(what));
                break;
            }
            default: {
                int i = some(-1, 8), what = some(0, 2);
                due.is(name + "off(" + i + ", " + what + ")", x.off(i, what), model.off(i, what));
            }
        }
    }

    private static void metalAndRules(String name) {
        switch (random.nextInt(12)) {
            case 0: case 1: {
                int tin = some(0, 400), lead = some(0, 400), price = some(0, 9), units = some(0, 40);
                if (random.nextInt(20) == 0) tin = 1000 - lead + random.nextInt(2);
                due.is(name + "lot(" + tin + ", " + lead + ", " + price + ", " + units + ")",
                        x.lot(tin, lead, price, units), model.lot(tin, lead, price, units));
                break;
            }
            case 2: case 3: case 4: {
                int n = some(1, model.count(2) > 4 ? 9 : 14), a = some(0, 300), b = a + some(0, 200), c = some(0, 400);
                due.is(name + "mix(" + n + ", " + a + ", " + b + ", " + c + ")", x.mix(n, a, b, c), model.mix(n, a, b, c));
                for (int i = -2; i < 7; i++) due.is(name + "mixed(" + i + ")", x.mixed(i), model.mixed(i));
                break;
            }
            case 5:
                due.is(name + "pour()", x.pour(), model.pour());
                for (int i = -2; i < 7; i++) due.is(name + "left(" + i + ")", x.left(i), model.left(i));
                break;
            case 6: case 7: case 8:
                feedSome(name, rulesText());
                break;
            case 9: {
                int n = some(0, model.count(6) + 1);
                due.is(name + "end(" + n + ")", x.end(n), model.end(n));
                break;
            }
            case 10:
                due.is(name + "rules() of some " + model.count(6), x.rules(), model.rules());
                due.is(name + "fault()", x.fault(), model.fault());
                break;
            default: {
                int i = some(-1, 20);
                due.is(name + "broken(" + i + ")", x.broken(i), model.broken(i));
                int what = some(-1, 7);
                due.is(name + "count(" + what + ")", x.count(what), model.count(what));
            }
        }
    }

    private static String rulesText() {
        StringBuilder text = new StringBuilder(random.nextInt(3) == 0 ? "  " : "");
        if (model.count(6) > 0 && random.nextInt(6) != 0) text.append(" ; ");
        int many = random.nextInt(8) == 0 ? 21 : 1 + random.nextInt(3);
        for (int i = 0; i < many; i++) {
            int kind = many > 9 ? 3 + random.nextInt(5) : random.nextInt(9);
            text.append(WORDS[kind]).append(' ');
            if (kind < 3) text.append("from ").append(random.nextInt(300)).append("to ");
            if (kind < 3) text.append(random.nextInt(40) == 0 ? 1 : 300 + random.nextInt(710));
            else text.append(random.nextInt(9));
            if (kind == 8) text.append(" every").append(random.nextInt(40) == 0 ? 0 : 1 + random.nextInt(9));
            if (random.nextInt(20) == 0) text.append(' ').append(WORDS[random.nextInt(WORDS.length)]);
            if (i + 1 < many) text.append(many > 9 ? ";" : " ;");
        }
        return text.toString();
    }

    private static void feedSome(String name, String text) {
        for (int at = 0; at < text.length(); at += 20) {
            int[] n = new int[5];
            for (int i = 0; i < 20; i++) {
                char c = at + i < text.length() ? text.charAt(at + i) : ' ';
                n[i / 4] = n[i / 4] << 8 | c;
            }
            due.is(name + "feed()", x.feed(n[0], n[1], n[2], n[3], n[4]), model.feed(n[0], n[1], n[2], n[3], n[4]));
        }
        if (random.nextInt(3) == 0) {
            due.is(name + "rules()", x.rules(), model.rules());
            due.is(name + "fault()", x.fault(), model.fault());
        }
    }

    private static void vessels(String name) {
        int a = some(0, 40), b = some(0, 40), year = some(0, 20);
        if (random.nextInt(10) == 0) year = 2990 + random.nextInt(12);
        switch (random.nextInt(9)) {
            case 0: case 1: {
                int marks = some(0, 99999999);
                if (random.nextInt(2) == 0) marks = random.nextInt(3) * 11110000 + random.nextInt(3) * 1111;
                due.is(name + "vessel(" + marks + ")", x.vessel(marks), model.vessel(marks));
                break;
            }
            case 2:
                due.is(name + "like(" + a + ", " + b + ")", x.like(a, b), model.like(a, b));
                break;
            case 3: case 4: case 5: {
                int shop = some(-1, 8);
                due.is(name + "tell(" + a + ", " + shop + ", " + year + ")", x.tell(a, shop, year), model.tell(a, shop, year));
                break;
            }
            case 6:
                due.is(name + "of(" + a + ", " + year + ")", x.of(a, year), model.of(a, year));
                break;
            default:
                due.is(name + "by(" + a + ", " + year + ")", x.by(a, year), model.by(a, year));
        }
    }
}
