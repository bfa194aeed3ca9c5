/** Promises 14 to 18: the tape, the rules in their small language, their fault, and which is broken. */
public final class RulesTest {
    private static final int BLANKS = 0x20202020;
    private static final Due due = new Due();

    public static void main(String[] args) {
        feedAndEnd();
        bytes();
        rulesThatCanBe();
        rulesThatCannotBe();
        twenty();
        stay();
        brokenByMetal();
        brokenByMould();
        due.end();
    }

    private static void feedAndEnd() {
        PieceMoulds x = new PieceMoulds();
        due.is("end(0) of nothing", x.end(0), 0);
        due.is("end(1) of nothing", x.end(1), -1);
        for (int i = 1; i <= 15; i++) {
            due.is("feed " + i, x.feed(BLANKS, BLANKS, BLANKS, BLANKS, BLANKS), 20 * i);
        }
        due.is("feed 16", x.feed(BLANKS, BLANKS, BLANKS, BLANKS, BLANKS), -1);
        due.is("bytes", x.count(6), 300);
        due.is("end(301)", x.end(301), -1);
        due.is("end(-1)", x.end(-1), -1);
        due.is("end(MIN)", x.end(Integer.MIN_VALUE), -1);
        due.is("end(MAX)", x.end(Integer.MAX_VALUE), -1);
        due.is("end(281)", x.end(281), 281);
        due.is("feed at 281", x.feed(0, 0, 0, 0, 0), -1);
        due.is("end(280)", x.end(280), 280);
        due.is("feed at 280", x.feed(0, 0, 0, 0, 0), 300);
        due.is("end(0)", x.end(0), 0);
        due.is("bytes", x.count(6), 0);
        due.is("status is not theirs", x.status(), 0);
    }

    /** "wall" and a number, the highest byte first; a byte above 127 is a token like others. */
    private static void bytes() {
        PieceMoulds x = new PieceMoulds();
        due.is("feed", x.feed(0x77616c6c, 0x20372020, 0xff202020, BLANKS, BLANKS), 20);
        due.is("rules", x.rules(), -6);
        due.is("fault", x.fault(), 8);
        due.is("feed", x.feed(0x77616c6c, 0x20372020, BLANKS, BLANKS, BLANKS), 20);
        due.is("rules", x.rules(), 1);
        due.is("fault", x.fault(), -1);
    }

    private static void rulesThatCanBe() {
        can("", 0);
        can("   ", 0);
        can("wall 1", 1);
        can("wall1", 1);
        can("  wall   1  ", 1);
        can("wall 0001000", 1);
        can("tin from 0 to 0", 1);
        can("tin from1000to1000;lead from 0 to 1000;copper from 5 to 6", 3);
        can("air 0;dry 1000;stuck 3 ;pieces 4", 4);
        can("spacers 0 every 1;spacers 1000 every 1000", 2);
    }

    private static void can(String text, int many) {
        PieceMoulds x = new PieceMoulds();
        Due.feedText(x, text);
        due.is("'" + text + "'", x.rules(), many);
        due.is("status of '" + text + "'", x.status(), 0);
        due.is("fault of '" + text + "'", x.fault(), -1);
        due.is("RULES of '" + text + "'", x.count(3), many);
        due.is("TAPE behind '" + text + "'", x.count(6), 0);
    }

    private static void rulesThatCannotBe() {
        cannot(";", 0);
        cannot("  ;", 2);
        cannot("wall 1;", 7);
        cannot("wall 1;  ", 9);
        cannot("wall 1;;", 7);
        cannot("wall", 4);
        cannot("wall  ", 6);
        cannot("wal 1", 0);
        cannot("wallx 1", 0);
        cannot("Wall 1", 0);
        cannot("5", 0);
        cannot("wall x", 5);
        cannot("wall -1", 5);
        cannot("wall 1001", 5);
        cannot("wall 99999999999999999999", 5);
        cannot("wall 4294967297", 5);
        cannot("wall 1 2", 7);
        cannot("wall 1 air 2", 7);
        cannot("wall\t1", 4);
        cannot("wall 1\u0000", 6);
        cannot("tin 5", 4);
        cannot("tin from", 8);
        cannot("tin from to", 9);
        cannot("tin from 5", 10);
        cannot("tin from 5 every 6", 11);
        cannot("tin from 5 to", 13);
        cannot("tin from 5 to 4", 14);
        cannot("tin from 5 to 1001", 14);
        cannot("tin from 1001 to 1001", 9);
        cannot("tinfrom 5 to 6", 0);
        cannot("lead from 5 to 6 to", 17);
        cannot("spacers 1", 9);
        cannot("spacers 1 to 2", 10);
        cannot("spacers 1 every", 15);
        cannot("spacers 1 every 0", 16);
        cannot("spacers 1 every 1001", 16);
        cannot("spacers every 1", 8);
        cannot("air 1;dry 2;stuck from", 18);
    }

    private static void cannot(String text, int place) {
        PieceMoulds x = new PieceMoulds();
        Due.feedText(x, text);
        due.is("'" + text + "'", x.rules(), -6);
        due.is("status of '" + text + "'", x.status(), -6);
        due.is("fault of '" + text + "'", x.fault(), place);
        due.is("RULES of '" + text + "'", x.count(3), 0);
        due.is("TAPE behind '" + text + "'", x.count(6), 0);
    }

    private static void twenty() {
        String text = "air 0";
        for (int i = 1; i < 20; i++) {
            text = text + ";air " + i % 10;
        }
        can(text, 20);
        cannot(text + ";", 120);
        cannot(text + ";  ", 122);
        cannot(text + ";air 1", 120);
        cannot(text + "; air 1001", 121);
        cannot(text + "; x", 121);
        cannot(text + " x", 120);
    }

    private static void stay() {
        PieceMoulds x = new PieceMoulds();
        Due.feedText(x, "wall 3;air 0");
        due.is("two", x.rules(), 2);
        due.is("the first is broken", x.broken(0), 0);
        Due.feedText(x, "air 0;air 0;air");
        due.is("cannot", x.rules(), -6);
        due.is("RULES stay", x.count(3), 2);
        due.is("the first still is broken", x.broken(0), 0);
        due.is("fault is kept", x.fault(), 15);
        due.is("an empty TAPE", x.rules(), 0);
        due.is("no fault", x.fault(), -1);
        due.is("no RULES", x.count(3), 0);
        due.is("none is broken", x.broken(0), -1);
    }

    private static PieceMoulds ruled(String text) {
        PieceMoulds x = new PieceMoulds();
        Due.feedText(x, text);
        x.rules();
        return x;
    }

    private static void brokenByMetal() {
        PieceMoulds x = ruled("tin from 0 to 1000;lead from 0 to 1000;copper from 0 to 1000");
        due.is("no MIX: 0", x.broken(0), 0);
        due.is("no MIX: 1", x.broken(1), 1);
        due.is("no MIX: 2", x.broken(2), 2);
        due.is("behind the last", x.broken(3), -1);
        due.is("far behind", x.broken(Integer.MAX_VALUE), -1);
        due.is("below 0", x.broken(-1) + x.broken(Integer.MIN_VALUE), -2);
        x = ruled("tin from 100 to 100;tin from 0 to 99;lead from 50 to 50;lead from 51 to 60"
                + ";copper from 850 to 850;copper from 851 to 1000;copper from 0 to 849;tin from 101 to 200");
        x.lot(200, 0, 1, 2);
        x.lot(0, 100, 1, 2);
        due.is("half of each", x.mix(4, 0, 1000, 1000), 4);
        int[] due8 = {1, 1, 3, 3, 5, 5, 6, 7};
        for (int i = 0; i < due8.length; i++) {
            due.is("broken(" + i + ")", x.broken(i), due8[i]);
        }
        due.is("pour", x.pour(), 4);
        due.is("poured, there is no MIX", x.broken(0), 0);
        x = ruled("tin from 67 to 1000");
        x.lot(200, 0, 1, 1);
        x.lot(0, 0, 1, 2);
        due.is("a third of 200 is less than 67", x.mix(3, 0, 1000, 0) * 10 + x.broken(0), 30);
        x = ruled("tin from 0 to 66");
        x.lot(200, 0, 1, 1);
        x.lot(0, 0, 1, 2);
        due.is("and more than 66", x.mix(3, 0, 1000, 0) * 10 + x.broken(0), 30);
    }

    private static void brokenByMould() {
        PieceMoulds x = ruled("wall 0;wall 1;dry 64;dry 63;air 0;stuck 0;pieces 0;spacers 1000 every 1");
        due.is("WALL is 0", x.broken(0), 1);
        due.is("DRY are 64", x.broken(2), 3);
        due.is("no others", x.broken(4), -1);

        x = ruled("air 2;air 1;dry 1;dry 0;wall 2;wall 3");
        x.size(3, 4);
        x.draw(0, 0, 2, 3, 10);
        x.draw(0, 0, 1, 1, 3);
        x.draw(2, 0, 2, 0, 0);
        due.is("2 by 2 with a spur", x.broken(0), 4);
        x.draw(2, 0, 2, 0, 10);
        due.is("2 by 2", x.broken(0), 5);
        x.draw(2, 3, 2, 3, 0);
        due.is("a DRY one", x.broken(0) * 10 + x.broken(2), 33);
        x.draw(0, 1, 0, 1, 0);
        x.draw(1, 1, 1, 1, 10);
        x.draw(0, 2, 0, 2, 0);
        due.is("AIR of two", x.broken(0), 1);
        due.is("REPAIR", x.repair(0, 1), 1);
        due.is("REPAIRED is no AIR", x.broken(0), 3);

        x = ruled("stuck 1;stuck 0;pieces 2;pieces 1");
        x.size(3, 3);
        x.draw(0, 0, 2, 2, 1);
        x.draw(1, 1, 1, 1, 10);
        x.draw(0, 0, 0, 0, 15);
        due.is("one STUCK", x.broken(0), 1);
        due.is("two PIECES", x.broken(2), 3);

        x = ruled("spacers 1 every 4;spacers 2 every 7");
        x.draw(0, 0, 6, 0, 1);
        due.is("no SPACERS", x.broken(0), 0);
        x.draw(0, 1, 0, 1, 2);
        due.is("one for seven", x.broken(0), 0);
        x.draw(1, 1, 1, 1, 2);
        due.is("two for seven", x.broken(0), -1);
        x.draw(7, 0, 7, 0, 1);
        due.is("two for eight", x.broken(0), 1);
    }
}
