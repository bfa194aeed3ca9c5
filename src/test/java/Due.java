/** Counts the answers of one test that are not the ones due. */
final class Due {
    private int asked = 0;
    private int wrong = 0;

    void is(String call, long got, long want) {
        asked++;
        if (got != want) {
            wrong++;
            System.out.println(call + " answered " + got + ", due is " + want);
        }
    }

    void same(String what, String got, String want) {
        asked++;
        if (!got.equals(want)) {
            wrong++;
            System.out.println(what + " is " + got + ", due is " + want);
        }
    }

    void fails(String what) {
        asked++;
        wrong++;
        System.out.println(what);
    }

    void end() {
        System.out.println(asked + " answers, " + wrong + " not as due");
        if (wrong != 0 || asked == 0) {
            System.exit(1);
        }
    }

    /** Feeds a text and cuts the tape behind it; the text fits in what room the tape has. */
    static void feedText(PieceMoulds x, String text) {
        int before = x.count(6);
        int[] number = new int[5];
        for (int at = 0; at < text.length(); at += 20) {
            for (int i = 0; i < 5; i++) {
                number[i] = 0;
                for (int k = 0; k < 4; k++) {
                    int place = at + 4 * i + k;
                    number[i] = number[i] << 8 | (place < text.length() ? text.charAt(place) : ' ');
                }
            }
            x.feed(number[0], number[1], number[2], number[3], number[4]);
        }
        x.end(before + text.length());
    }
}
