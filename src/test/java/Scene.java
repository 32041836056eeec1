/** Objects in states that are known, from nothing at all to a house in which there is no more room. */
enum Scene {
    /** A new object. */
    NEW(0, 0, 0, 0),
    /** The least that a text may tell, nothing done yet. */
    SMALLEST(2, 1, 1, 0),
    /** The most that a text may tell, all of it changed since. */
    BUSY(8, 4, 3, 3),
    /** As BUSY, with as many readings as there may be. */
    FULL(8, 4, 3, 8);

    static final String SMALLEST_TEXT = "s213;w05,1";
    static final String LARGEST_TEXT = "s230142035;w05;k43;t28;w71,0,5,7";
    /** Sheet 0, ints: three pairs that can be, one of a move that can't be, one of no doer, one of no move. */
    static final int[] PAIRS = {0, 1, 1, 0, 2, 4, 0, 0, 4, 0, 0, 5};
    static final int FIRST_WRONG_AT = 6, NO_DOER_AT = 8, NO_MOVE_AT = 10;
    /** Sheet 1, shorts: two pages that join, and a cell more. */
    static final int[] PAGES = {7, 2, 2, 7, -300};
    /** Sheet 2 has nothing; sheet 3, bytes, has the text. */
    static final int NOTHING = 2, TEXT = 3;

    final int boards;
    final int doers;
    final int pens;
    final int readings;

    Scene(int boards, int doers, int pens, int readings) {
        this.boards = boards;
        this.doers = doers;
        this.pens = pens;
        this.readings = readings;
    }

    int textLength() {
        return this == SMALLEST ? SMALLEST_TEXT.length() : LARGEST_TEXT.length();
    }

    Counted make() {
        if (this == NEW) {
            return new Counted();
        }
        Counted x = Counted.housed(this == SMALLEST ? SMALLEST_TEXT : LARGEST_TEXT);
        x.fill(0, 2, PAIRS);
        x.fill(1, 1, PAGES);
        if (this != SMALLEST) {
            makeBusy(x);
        }
        return x;
    }

    private void makeBusy(Counted x) {
        x.due(3, "step", 1, 0);
        x.due(3, "step", 2, 1);
        x.due(7, "carry", 2, 6);
        x.due(4, "oil", 3, 7);
        x.due(1, "dine", 3, 6);
        x.due(2, "leap", 3);
        int[][] so = {{0, 0, 0, 8}, {2, 2, 0, 2}, {1, 4, 1, 3}};
        for (int k = 0; k < readings; k++) {
            x.due(k, "reading", so[k % so.length]);
        }
        x.due(30, "hear", 2);
        x.due(103, "tell", 1);
    }
}
