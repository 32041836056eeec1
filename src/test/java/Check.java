/** What the tests share: an answer that is due, sheets that are filled, houses that are told. */
final class Check {
    private static int wrong = 0;
    private static int asked = 0;

    private Check() {
    }

    static void due(String call, long got, long want) {
        asked++;
        if (got != want) {
            wrong++;
            System.out.println(call + " answered " + got + ", due is " + want);
        }
    }

    static void holds(String what, boolean so) {
        due(what, so ? 1 : 0, 1);
    }

    /** Ends the test: with exit code 1 if an answer was wrong. */
    static void end() {
        System.out.println(asked + " answers, " + wrong + " not as due");
        if (wrong != 0 || asked == 0) {
            System.exit(1);
        }
    }

    static void fill(BumpDiary x, int sheet, int lane, int... values) {
        due("sheet", x.sheet(sheet, lane, values.length), 1);
        for (int i = 0; i < values.length; i++) {
            due("put", x.put(sheet, i, values[i]), 1);
        }
    }

    /** Tells a text by sheet 3 as bytes: what house answers. */
    static int tellHouse(BumpDiary x, String text) {
        int[] codes = new int[text.length()];
        for (int i = 0; i < codes.length; i++) {
            codes[i] = text.charAt(i);
        }
        fill(x, 3, 0, codes);
        return x.house(3, 0, 0, codes.length);
    }

    static BumpDiary housed(String text) {
        BumpDiary x = new BumpDiary();
        int doers = text.length() - text.replace(";", "").length();
        due("house " + text, tellHouse(x, text), doers);
        return x;
    }

    /** A number that is unlike if anything but sheets, trace and fault of x is unlike. */
    static long stateOf(BumpDiary x) {
        long state = 7;
        for (int what = 0; what <= 4; what++) {
            state = 1000003 * state + x.many(what);
        }
        for (int d = 0; d < 4; d++) {
            for (int what = 0; what < 3; what++) {
                state = 1000003 * state + x.ofDoer(d, what);
            }
            state = 1000003 * state + x.weights(d);
            state = 1000003 * state + x.kinds(d);
        }
        for (int p = 0; p < 3; p++) {
            for (int what = 0; what < 3; what++) {
                state = 1000003 * state + x.ofPen(p, what);
            }
        }
        for (int b = 0; b < 8; b++) {
            state = 1000003 * state + x.creak(b);
            state = 1000003 * state + x.creaks(b);
        }
        return state;
    }
}
