import java.util.Set;
import java.util.TreeSet;

/** Promise 2 and part 1: at every place of a text every code, those with which a text goes on and those of a FIRST FAULT. */
public final class TextTest {
    private static final String DIGITS = "0123456789", KINDS = "wkt";
    private static final int MIN = Integer.MIN_VALUE, MAX = Integer.MAX_VALUE;

    public static void main(String[] args) {
        leastText();
        mostText();
        threeBoards();
        howManyBoards();
        howManyDoers();
        howManyPens();
        codesOfUnlikeLanes();
        laterFaultsDoNotCount();
        whatIsToldIsThere();
        Check.end();
    }

    /** 2 boards, 1 doer, 1 pen: at each place the codes with which a text goes on. */
    private static void leastText() {
        everyCode("s213;w05,1", "s", DIGITS, DIGITS, DIGITS, DIGITS + ";", KINDS, "01", DIGITS, ";,", "01", ",");
        everyCode("s999;k19,0,0",
            "s", DIGITS, DIGITS, DIGITS, DIGITS + ";", KINDS, "01", DIGITS, ";,", "01", ",", "01", ",");
    }

    /** "the digit of a ninth BOARD, the ; of a fifth DOER, the , of a fourth PEN": places 10, 26, 32 take none of them. */
    private static void mostText() {
        String board = "01234567";
        everyCode("s012345678;w70;k01;t19;w75,0,7,3",
            "s", DIGITS,
            DIGITS, DIGITS, DIGITS + ";", DIGITS + ";", DIGITS + ";", DIGITS + ";", DIGITS + ";", DIGITS + ";",
            ";", KINDS, board, DIGITS, ";,", KINDS, board, DIGITS, ";,", KINDS, board, DIGITS, ";,", KINDS, board, DIGITS,
            ",", board, ",", board, ",", board,
            "");
    }

    /** "(the BOARD on which one is: one that there is)". */
    private static void threeBoards() {
        everyCode("s0000;t20;w00,2",
            "s", DIGITS, DIGITS, DIGITS, DIGITS + ";", DIGITS + ";", KINDS, "012", DIGITS, ";,", KINDS, "012", DIGITS, ";,",
            "012", ",");
    }

    /** "2 to 8 digits": a board that there is, and one that there is not, for each number of boards. */
    private static void howManyBoards() {
        String creaks = "987654321";
        for (int boards = 0; boards <= 9; boards++) {
            String floor = "s4" + creaks.substring(0, boards);
            if (boards < 2) {
                house(floor + ";w00,0", -102 - boards);
                house(floor, -102 - boards);
                continue;
            }
            if (boards > 8) {
                house(floor + ";w00,0", -110);
                house(floor, -110);
                continue;
            }
            int last = boards - 1;
            Counted x = Counted.housed(floor + ";w" + last + "0,0");
            x.due(boards, "many", 2);
            x.due(creaks.charAt(last) - '0', "creak", last);
            x.due(-1, "creak", boards);
            Counted.housed(floor + ";w00," + last).due(last, "ofPen", 0, 0);
            house(floor + ";w" + boards + "0,0", -104 - boards);
            house(floor + ";w00," + boards, -107 - boards);
            house(floor, -102 - boards);
        }
    }

    /** "1 to 4 DOERS". */
    private static void howManyDoers() {
        for (int doers = 0; doers <= 5; doers++) {
            String text = "s011" + ";w00".repeat(doers);
            if (doers == 0) {
                house(text + ",0", -104);
            } else if (doers == 5) {
                house(text + ",0", -120);
            } else {
                Counted.housed(text + ",0").due(doers, "many", 0);
            }
            house(text, doers == 5 ? -120 : -104 - 4 * doers);
        }
    }

    /** "1 to 3 PENS". */
    private static void howManyPens() {
        for (int pens = 0; pens <= 4; pens++) {
            String text = "s011;k12" + ",1".repeat(pens);
            if (pens == 0) {
                house(text, -108);
            } else if (pens == 4) {
                house(text, -114);
            } else {
                Counted.housed(text).due(pens, "many", 1);
                house(text + ",", pens == 3 ? -114 : -109 - 2 * pens);
                house(text + ";", -108 - 2 * pens);
            }
        }
    }

    /** A cell is taken as it was cut to its lane: more than a byte or a short is no code unless it was cut to one. */
    private static void codesOfUnlikeLanes() {
        String text = "s213;w05,1";
        for (int lane = 0; lane <= 2; lane++) {
            for (int place = 0; place < text.length(); place++) {
                Counted x = new Counted();
                x.fill(1, lane, text);
                int code = text.charAt(place);
                for (int off : new int[] {256, -256, 3 * 256, 65536, -65536, 1 << 24, MIN}) {
                    x.due(1, "put", 1, place, code + off);
                    boolean cut = lane == 0 || lane == 1 && off % 65536 == 0;
                    x.due(cut ? 1 : -100 - place, "house", 1, lane, 0, text.length());
                }
                for (int far : new int[] {MIN, MAX, -1, 0, -code}) {
                    x.due(1, "put", 1, place, far);
                    x.due(-100 - place, "house", 1, lane, 0, text.length());
                }
            }
        }
    }

    /** "the first code with which no TEXT goes on": what is behind it does not count, nor that the text ends too soon. */
    private static void laterFaultsDoNotCount() {
        house("x213;w05,1", -100);
        house("xx", -100);
        house("sx", -101);
        house("sxx", -101);
        house("s2x;;;,,,", -102);
        house("s21;x", -103);
        house("s213x;w05,1", -104);
        house("s213,1;w05", -104);
        house("s213;w0;w,", -107);
        house("s213;w05,1s213;w05,1", -110);
        house("s213;w05,2,3", -109);
        house("", -100);
    }

    private static void whatIsToldIsThere() {
        Counted x = Counted.housed("s012345678;w70;k01;t19;w75,0,7,3");
        x.due(0, "many", 3);
        int[][] doers = {{0, 7, 0}, {1, 0, 1}, {2, 1, 9}, {0, 7, 5}};
        for (int d = 0; d < 4; d++) {
            for (int what = 0; what < 3; what++) {
                x.due(doers[d][what], "ofDoer", d, what);
            }
        }
        int[] pens = {0, 7, 3};
        for (int p = 0; p < 3; p++) {
            x.due(pens[p], "ofPen", p, 0);
        }
        for (int b = 0; b < 8; b++) {
            x.due(b + 1, "creak", b);
        }
        Counted.housed("s900;t00,0").due(9, "many", 3);
    }

    private static void house(String text, int want) {
        Counted x = new Counted();
        x.fill(0, 2, text);
        Check.due("house of " + text, x.call("house", 0, 2, 0, text.length()), want);
        x.due(0, "fault");
        for (int what = 0; what < 5; what++) {
            x.due(0, "many", what);
        }
    }

    /** goesOn tells, for each place and for the one behind the last, all codes with which a text goes on there. */
    private static void everyCode(String text, String... goesOn) {
        Check.due("places of " + text, goesOn.length, text.length() + 1);
        for (int place = 0; place <= text.length(); place++) {
            Check.holds("it goes on so", place == text.length() || goesOn[place].indexOf(text.charAt(place)) >= 0);
            codesAt(text.substring(0, place), goesOn[place]);
        }
        Counted.housed(text);
    }

    private static void codesAt(String ahead, String goesOn) {
        int place = ahead.length();
        Counted x = new Counted();
        for (int code : codes()) {
            if (x.made() == 0 || x.made() > 500) {
                x = new Counted();
                x.fill(0, 2, ahead + "ss");
            }
            boolean goes = code >= 0 && code < 256 && goesOn.indexOf((char) code) >= 0;
            x.due(1, "put", 0, place, code);
            // A code that is right makes it whole, if it is a pen's; otherwise it just ends too soon.
            long whole = ahead.endsWith(",") ? ahead.chars().filter(c -> c == ';').count() : -101 - place;
            Check.due("code " + code + " behind " + ahead, x.call("house", 0, 2, 0, place + 1), goes ? whole : -100 - place);
        }
    }

    private static Set<Integer> codes() {
        Set<Integer> codes = new TreeSet<>(Set.of(MIN, MAX, 256 + 's', 65536 + ';', -'0'));
        for (int code = -3; code <= 130; code++) {
            codes.add(code);
        }
        return codes;
    }
}
