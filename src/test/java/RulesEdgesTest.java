/** The edges of promises 14 to 18, a test for each: the tape, tokens, numbers, faults, rules just kept or broken. */
public final class RulesEdgesTest {
    private static final int MIN = Integer.MIN_VALUE;
    private static final int MAX = Integer.MAX_VALUE;
    private static final int BLANKS = 0x20202020;
    private static final Due due = new Due();

    public static void main(String[] args) {
        feed();
        end();
        texts();
        tokens();
        numbers();
        twentyRules();
        longestText();
        rulesAreReplaced();
        fault();
        brokenPlaces();
        brokenMetal();
        brokenCells();
        brokenPieces();
        brokenSpacers();
        due.end();
    }

    private static PieceMoulds ruled(PieceMoulds x, String text, int many) {
        Due.feedText(x, text);
        due.is("P16 '" + text + "'", x.rules(), many);
        return x;
    }

    private static void can(String text, int many) {
        PieceMoulds x = ruled(new PieceMoulds(), text, many);
        due.is("P17 no FAULT of '" + text + "'", x.fault(), -1);
        due.is("P16 RULES of '" + text + "'", x.count(3), many);
        due.is("P16 the TAPE is empty behind '" + text + "'", x.count(6), 0);
    }

    private static void cannot(String text, int place) {
        PieceMoulds x = ruled(new PieceMoulds(), text, -6);
        due.is("P17 FAULT of '" + text + "'", x.fault(), place);
        due.is("P16 no RULES of '" + text + "'", x.count(3), 0);
        due.is("P16 the TAPE is empty behind '" + text + "'", x.count(6), 0);
    }

    private static void feed() {
        feedToTheLast();
        feedTheOrderOfBytes();
        feedBehindTheTape();
        feedThatIsRefused();
    }

    private static void feedToTheLast() {
        PieceMoulds x = new PieceMoulds();
        for (int i = 1; i <= 15; i++) {
            due.is("P14 feed " + i, x.feed(0, MIN, MAX, -1, BLANKS), 20 * i);
        }
        due.is("P14 more than 300", x.feed(0, 0, 0, 0, 0), -1);
        due.is("P14 300 stay", x.count(6), 300);
        x.end(281);
        due.is("P14 301", x.feed(0, 0, 0, 0, 0), -1);
        due.is("P14 281 stay", x.count(6), 281);
        x.end(280);
        due.is("P14 300", x.feed(0, 0, 0, 0, 0), 300);
    }

    /** Each of the twenty bytes is the only one that is no blank; as a FAULT it tells its place. */
    private static void feedTheOrderOfBytes() {
        for (int place = 0; place < 20; place++) {
            int[] n = {BLANKS, BLANKS, BLANKS, BLANKS, BLANKS};
            n[place / 4] ^= 0xdd << 24 - place % 4 * 8;
            PieceMoulds x = new PieceMoulds();
            due.is("P14 bytes", x.feed(n[0], n[1], n[2], n[3], n[4]), 20);
            due.is("P16 byte " + place, x.rules(), -6);
            due.is("P17 byte " + place, x.fault(), place);
        }
    }

    private static void feedBehindTheTape() {
        PieceMoulds x = new PieceMoulds();
        Due.feedText(x, "wa");
        Due.feedText(x, "ll 12");
        Due.feedText(x, "34");
        due.is("P14 bytes", x.count(6), 9);
        due.is("P16 a number of four digits", x.rules(), -6);
        due.is("P17 its place", x.fault(), 5);
    }

    private static void feedThatIsRefused() {
        PieceMoulds x = new PieceMoulds();
        Due.feedText(x, "wall 5" + " ".repeat(294));
        due.is("P14 no room", x.feed(-1, -1, -1, -1, -1), -1);
        due.is("P16 nothing came", x.rules(), 1);
    }

    private static void end() {
        PieceMoulds x = new PieceMoulds();
        due.is("P15 none of none", x.end(0), 0);
        due.is("P15 one of none", x.end(1), -1);
        x.feed(BLANKS, BLANKS, BLANKS, BLANKS, BLANKS);
        for (int n : new int[] {-1, -20, 21, 300, 301, MIN, MAX}) {
            due.is("P15 end " + n, x.end(n), -1);
            due.is("P15 all stay", x.count(6), 20);
        }
        due.is("P15 all", x.end(20), 20);
        due.is("P15 all but one", x.end(19), 19);
        due.is("P15 what was cut does not come back", x.end(20), -1);
        due.is("P15 one", x.end(1), 1);
        due.is("P15 none", x.end(0), 0);
        due.is("P15 empty", x.count(6), 0);
        endCutsWithinTokens();
    }

    private static void endCutsWithinTokens() {
        String[] texts = {"wall 77", "wall 7", "wall 7;air 1", "wall 12345", "tin from 1 to 23"};
        int[] cuts = {6, 5, 7, 8, 15};
        int[] answers = {1, -6, -6, 1, 1};
        int[] faults = {-1, 5, 7, -1, -1};
        for (int i = 0; i < texts.length; i++) {
            PieceMoulds x = new PieceMoulds();
            Due.feedText(x, texts[i]);
            due.is("P15 the end of '" + texts[i] + "'", x.end(cuts[i]), cuts[i]);
            due.is("P16 '" + texts[i] + "' cut", x.rules(), answers[i]);
            due.is("P17 '" + texts[i] + "' cut", x.fault(), faults[i]);
        }
    }

    private static void texts() {
        can("", 0);
        can(" ", 0);
        can(" ".repeat(300), 0);
        can("wall 1", 1);
        can("wall 1;air 1", 2);
        can("tin from 1 to 2;lead from 1 to 2;copper from 1 to 2;wall 1;air 1;dry 1;stuck 1;pieces 1;spacers 1 every 1", 9);
        cannot(";", 0);
        cannot(" ;", 1);
        cannot(";wall 1", 0);
        cannot("wall 1;", 7);
        cannot("wall 1; ", 8);
        cannot("wall 1;;air 1", 7);
        cannot("wall 1 air 1", 7);
        cannot("wall 1,air 1", 6);
        cannot("wall", 4);
        cannot("wall ", 5);
        cannot("wall;", 4);
        cannot("wall wall", 5);
        cannot("tin", 3);
        cannot("tin;", 3);
        cannot("tin;wall 1", 3);
        cannot("tin to 1", 4);
        cannot("tin from", 8);
        cannot("tin from;", 8);
        cannot("tin from 1", 10);
        cannot("tin from 1;", 10);
        cannot("tin from 1 to", 13);
        cannot("tin from 1 to;", 13);
        cannot("tin from 1 every 2", 11);
        cannot("tin from 1 to 2 to 3", 16);
        cannot("spacers", 7);
        cannot("spacers;", 7);
        cannot("spacers 1", 9);
        cannot("spacers 1;", 9);
        cannot("spacers 1 every", 15);
        cannot("spacers 1 every;", 15);
        cannot("spacers 1 to 2", 10);
        cannot("spacers from 1 to 2", 8);
        cannot("wall from 1 to 2", 5);
        cannot("wall 1 every 2", 7);
        cannot("from 1 to 2", 0);
        cannot("every 1", 0);
        cannot("1", 0);
    }

    private static void tokens() {
        can("wall1;air2;dry3;stuck4;pieces5;spacers6every7", 6);
        can("tin from1to2", 1);
        can("   wall   1   ;   air   1   ", 2);
        cannot("tinfrom1to2", 0);
        cannot("tin fromx1to2", 4);
        cannot("wa ll 1", 0);
        cannot("wallwall 1", 0);
        cannot("wal 1", 0);
        cannot("walls 1", 0);
        cannot("walla 1", 0);
        cannot("wallz 1", 0);
        cannot("wall`1", 4);
        cannot("wall{1", 4);
        cannot("wallA 1", 4);
        cannot("wallZ 1", 4);
        cannot("WALL 1", 0);
        cannot("wall 1a", 6);
        cannot("wall 1/", 6);
        cannot("wall 1:", 6);
        cannot("wall /1", 5);
        cannot("wall :1", 5);
        cannot("wall 1 0", 7);
        cannot("wall -1", 5);
        cannot("wall +1", 5);
        cannot("wall 1.0", 6);
        cannot("wall\t1", 4);
        cannot("wall\n1", 4);
        cannot("wall\u001f1", 4);
        cannot("wall!1", 4);
        cannot("wall\u00001", 4);
        cannot("wall\u00a01", 4);
        cannot("wall\u00ff1", 4);
        cannot("\u0000", 0);
        cannot("wall 1\u0000", 6);
        cannot(";;", 0);
    }

    private static void numbers() {
        for (String word : new String[] {"wall", "air", "dry", "stuck", "pieces"}) {
            can(word + " 0", 1);
            can(word + " 1000", 1);
            cannot(word + " 1001", word.length() + 1);
        }
        for (String word : new String[] {"tin", "lead", "copper"}) {
            int at = word.length() + 6;
            can(word + " from 0 to 0", 1);
            can(word + " from 1000 to 1000", 1);
            can(word + " from 0 to 1000", 1);
            cannot(word + " from 1001 to 1001", at);
            cannot(word + " from 1000 to 1001", at + 8);
            cannot(word + " from 1000 to 999", at + 8);
            cannot(word + " from 1 to 0", at + 5);
        }
        can("spacers 0 every 1", 1);
        can("spacers 1000 every 1000", 1);
        can("spacers 5 every 1", 1);
        cannot("spacers 0 every 0", 16);
        cannot("spacers 1 every 1001", 16);
        cannot("spacers 1001 every 1", 8);
        can("wall 0000000000000000000000000001000", 1);
        can("wall 00000", 1);
        cannot("spacers 1 every 000", 16);
        cannot("wall 0001001", 5);
        cannot("wall 10000", 5);
        cannot("wall 2147483648", 5);
        cannot("wall 4294967296", 5);
        cannot("wall 4294967297", 5);
        cannot("wall 18446744073709551617", 5);
        cannot("wall " + "9".repeat(295), 5);
        can("wall " + "0".repeat(295), 1);
    }

    private static void twentyRules() {
        String nineteen = "air 0;".repeat(19);
        can(nineteen + "air 0", 20);
        can(nineteen + "air 0  ", 20);
        cannot(nineteen + "air 0;", 120);
        cannot(nineteen + "air 0; ", 121);
        cannot(nineteen + "air 0;air 0", 120);
        cannot(nineteen + "air 0;  air 0", 122);
        cannot(nineteen + "air 0;air", 120);
        cannot(nineteen + "air 0;;", 120);
        cannot(nineteen + "air 0;x", 120);
        cannot(nineteen + "air 0 air 0", 120);
        cannot(nineteen + "air x;air 0", 118);
        cannot(nineteen, 114);
        can("air 0;".repeat(18) + "air 0", 19);
        PieceMoulds x = ruled(new PieceMoulds(), nineteen + "wall 1", 20);
        due.is("P18 the twentieth", x.broken(0), 19);
        due.is("P18 the twentieth from itself on", x.broken(19), 19);
        due.is("P18 none behind it", x.broken(20), -1);
    }

    private static void longestText() {
        String wide = " ".repeat(290);
        can("wall" + wide + "     1", 1);
        cannot("wall" + wide + "     x", 299);
        cannot("wall" + wide + "      ", 300);
        cannot("wall 1" + wide + "   ;", 300);
        cannot("tin from 1 to" + " ".repeat(286) + "0", 299);
        can("tin from 1 to" + " ".repeat(286) + "1", 1);
    }

    private static void rulesAreReplaced() {
        PieceMoulds x = ruled(new PieceMoulds(), "wall 1;air 0;wall 2", 3);
        due.is("P18 the first", x.broken(0), 0);
        ruled(x, "air 0;air 0;air 0;x", -6);
        due.is("P16 they stay", x.count(3), 3);
        due.is("P18 the first, as ahead", x.broken(0), 0);
        due.is("P18 the third, as ahead", x.broken(1), 2);
        ruled(x, "air 0;wall 1", 2);
        due.is("P16 two alone", x.count(3), 2);
        due.is("P18 the second", x.broken(0), 1);
        due.is("P18 the third is gone", x.broken(2), -1);
        due.is("P16 an empty TAPE: none", x.rules(), 0);
        due.is("P16 none alone", x.count(3), 0);
        due.is("P18 none", x.broken(0), -1);
    }

    private static void fault() {
        PieceMoulds x = new PieceMoulds();
        due.is("P17 ahead of any", x.fault(), -1);
        ruled(x, "x", -6);
        due.is("P17 at the first byte", x.fault(), 0);
        due.is("P17 asked again", x.fault(), 0);
        Due.feedText(x, "wall 1;x");
        x.end(6);
        due.is("P17 of the latest rules() still", x.fault(), 0);
        due.is("P16 the TAPE as cut", x.rules(), 1);
        due.is("P17 none", x.fault(), -1);
        ruled(x, "  x", -6);
        due.is("P17 its place", x.fault(), 2);
        due.is("P16 an empty TAPE", x.rules(), 0);
        due.is("P17 none again", x.fault(), -1);
    }

    private static void brokenPlaces() {
        PieceMoulds x = ruled(new PieceMoulds(), "wall 1;wall 0;wall 1", 3);
        int[] from = {0, 1, 2, 3, 4, 20, MAX, -1, -2, MIN};
        int[] want = {0, 2, 2, -1, -1, -1, -1, -1, -1, -1};
        for (int i = 0; i < from.length; i++) {
            due.is("P18 from " + from[i], x.broken(from[i]), want[i]);
        }
    }

    /** A MIX of three UNITS, in which the sums are 200 of tin, 100 of lead and 2700 of copper. */
    private static void brokenMetal() {
        metal("tin", 66, 67);
        metal("lead", 33, 34);
        metal("copper", 900, 900);
        String all = "tin from 0 to 1000;lead from 0 to 1000;copper from 0 to 1000";
        PieceMoulds x = ruled(new PieceMoulds(), all, 3);
        x.lot(0, 0, 1, 3);
        x.mix(4, 0, 0, 0);
        for (int i = 0; i < 3; i++) {
            due.is("P18 no MIX: " + i, x.broken(i), i);
        }
        x.mix(1, 0, 0, 0);
        due.is("P18 a MIX of one UNIT", x.broken(0), -1);
        x.mix(4, 0, 0, 0);
        due.is("P18 the latest stays", x.broken(0), -1);
        x.pour();
        for (int i = 0; i < 3; i++) {
            due.is("P18 it is poured: " + i, x.broken(i), i);
        }
        x = ruled(new PieceMoulds(), "tin from 1000 to 1000;lead from 0 to 0;copper from 0 to 0;copper from 1 to 1000", 4);
        x.lot(1000, 0, 1, 40);
        x.mix(40, 0, 1000, 0);
        due.is("P18 tin alone", x.broken(0), 3);
    }

    private static void metal(String name, int below, int above) {
        metalRule(name, below, above, false);
        metalRule(name, above + (below == above ? 1 : 0), 1000, true);
        metalRule(name, 0, below - (below == above ? 1 : 0), true);
    }

    private static void metalRule(String name, int from, int to, boolean isBroken) {
        PieceMoulds x = ruled(new PieceMoulds(), name + " from " + from + " to " + to, 1);
        x.lot(200, 100, 1, 1);
        x.lot(0, 0, 1, 2);
        x.mix(3, 0, 1000, 1000);
        due.is("P18 " + name + " from " + from + " to " + to, x.broken(0), isBroken ? 0 : -1);
    }

    private static void brokenOf(String picture, String text, int want) {
        PieceMoulds x = Picture.drawn(picture);
        Due.feedText(x, text);
        x.rules();
        due.is("P18 '" + text + "' of " + picture, x.broken(0), want);
    }

    private static void brokenCells() {
        brokenOf("SSS/SSS", "wall 2", -1);
        brokenOf("SSS/SSS", "wall 3", 0);
        brokenOf("CC/CC", "wall 0", -1);
        brokenOf("CC/CC", "wall 1", 0);
        brokenOf("..C/..G", "air 2", -1);
        brokenOf("..C/..G", "air 1", 0);
        brokenOf("../..", "air 0", -1);
        brokenOf("../..", "dry 4", -1);
        brokenOf("../..", "dry 3", 0);
        brokenOf("..C/..G", "dry 0", -1);
        brokenOf("SS/SS", "wall 1000", 0);
        brokenOf("../..", "dry 1000", -1);
        PieceMoulds x = Picture.drawn("..C./..GC");
        Due.feedText(x, "air 1;dry 0");
        x.rules();
        due.is("P18 two of AIR", x.broken(0), 0);
        x.repair(0, 1);
        due.is("P18 one of them REPAIRED", x.broken(0), 1);
        x = Picture.drawn("S./CC");
        Due.feedText(x, "dry 0");
        x.rules();
        due.is("P18 one DRY", x.broken(0), 0);
        x.repair(1, 1);
        due.is("P18 it is REPAIRED", x.broken(0), -1);
        x.draw(0, 0, 0, 0, 1);
        due.is("P18 the REPAIR is away", x.broken(0), 0);
    }

    private static void brokenPieces() {
        brokenOf("CCC/C0C/CC7", "stuck 1", -1);
        brokenOf("CCC/C0C/CC7", "stuck 0", 0);
        brokenOf("CCC/CCC/CC7", "stuck 0", -1);
        brokenOf("CCC/C0C/CC7", "pieces 2", -1);
        brokenOf("CCC/C0C/CC7", "pieces 1", 0);
        brokenOf("CC/CC", "pieces 0", -1);
        brokenOf("0123/4567", "pieces 8", -1);
        brokenOf("0123/4567", "pieces 7", 0);
    }

    private static void brokenSpacers() {
        brokenOf("SCC/CCC", "spacers 1 every 5", -1);
        brokenOf("SCC/CCC", "spacers 1 every 4", 0);
        brokenOf("SSC/CCC", "spacers 1 every 2", -1);
        brokenOf("SSC/CCC", "spacers 2 every 3", 0);
        brokenOf("CC/CC", "spacers 0 every 1", -1);
        brokenOf("CC/CC", "spacers 1 every 1000", 0);
        brokenOf("../..", "spacers 1000 every 1", -1);
        brokenOf("SS/SS", "spacers 1000 every 1", -1);
        PieceMoulds x = new PieceMoulds();
        x.size(12, 12);
        x.draw(0, 0, 11, 11, 1);
        ruled(x, "spacers 1000 every 1000", 1);
        due.is("P18 144 of CORE, no SPACER", x.broken(0), 0);
        x.draw(0, 0, 11, 5, 2);
        due.is("P18 half of each", x.broken(0), -1);
        x.draw(0, 5, 0, 5, 1);
        due.is("P18 one fewer", x.broken(0), 0);
    }
}
