/** What the tests over told boards share: boards made in a line, givings told in a line, and what is refused. */
class Boards {
    static final int NONE = -1;
    static final int BAD = -2;
    static final int NO = -3;
    static final int FULL = -4;

    // The last of the largest board's givings (8 askers, 6 places of 3 seats, every wish given), and how many.
    static final int[] LARGEST_LAST = {5, 5, 5, 4, 4, 4, 3, 3};
    static final long LARGEST_GIVINGS = 5142613;
    // Of these, all 8 have a place in so many.
    static final long LARGEST_ALL_PLACED = 1371720;

    private static Checks checks;
    private static String sentence;
    private static int asked;

    Boards() {
    }

    interface Call {
        long answer();
    }

    interface CallOf {
        long answer(int number);
    }

    static void begin(String name) {
        checks = new Checks(name);
        sentence = "";
        asked = 1;
    }

    /** What follows holds this sentence of the document; it stands ahead of each answer that is not as due. */
    static void sentence(String words) {
        checks.holds("something holds: " + sentence, asked > 0);
        sentence = words + ": ";
        asked = 0;
        checks.part();
    }

    static void end() {
        sentence("end");
        checks.end();
    }

    static void due(String call, long got, long want) {
        asked++;
        checks.due(sentence + call, got, want);
    }

    static int[] row(int... values) {
        return values;
    }

    static int[] like(int value, int many) {
        int[] row = new int[many];
        java.util.Arrays.fill(row, value);
        return row;
    }

    /** Places with seats as told, then askers with rows of wishes. */
    static WishPlaces made(int[] seats, int[]... wishes) {
        WishPlaces x = new WishPlaces();
        for (int s : seats) {
            x.place(s);
        }
        for (int a = 0; a < wishes.length; a++) {
            x.asker();
            for (int q = 0; q < seats.length; q++) {
                checks.due(sentence + "wish at making", x.wish(a, q, wishes[a][q]), 0);
            }
        }
        return x;
    }

    /** So many askers, all with the same row of wishes. */
    static WishPlaces madeAlike(int[] seats, int askers, int... wishes) {
        int[][] rows = new int[askers][];
        java.util.Arrays.fill(rows, wishes);
        return made(seats, rows);
    }

    static WishPlaces largest(int wish) {
        return madeAlike(like(3, 6), 8, like(wish, 6));
    }

    static void tell(WishPlaces x, int giving, int... row) {
        for (int a = 0; a < row.length; a++) {
            x.give(giving, a, NONE);
        }
        for (int a = 0; a < row.length; a++) {
            due("give(" + giving + ", " + a + ", " + row[a] + ")", x.give(giving, a, row[a]), 1);
        }
    }

    static void dueRow(String what, WishPlaces x, int giving, int... row) {
        for (int a = 0; a < row.length; a++) {
            due(what + ": has(" + giving + ", " + a + ")", x.has(giving, a), row[a]);
        }
    }

    /** A told giving becomes something, and has this row then. */
    static void dueBecome(WishPlaces x, int giving, int what, int... row) {
        due("become(" + giving + ", " + what + ")", x.become(giving, what), 1);
        dueRow("become(" + giving + ", " + what + ")", x, giving, row);
    }

    static void dueFraction(String what, WishPlaces x, long above, long below) {
        due(what + ": part(0)", x.part(0), above);
        due(what + ": part(1)", x.part(1), below);
    }

    /** The digest of such values. */
    static long fold(long... values) {
        long h = 331;
        for (long v : values) {
            h = 31 * h + v;
        }
        return h;
    }

    /** Numbers outside of least .. most: next to it, and such as a mask or a cast would bring back. */
    static int[] outside(int least, int most) {
        return row(least - 1, most + 1, least - 8, most + 8, least - 256, least + 256, least + 65536, least - 65536,
                least + (1 << 30), Integer.MIN_VALUE, Integer.MIN_VALUE + 16, Integer.MAX_VALUE);
    }

    /** A call that is refused, and changes nothing. */
    static void refused(String call, WishPlaces x, long want, Call c) {
        long before = x.digest();
        due(call, c.answer(), want);
        due(call + " changes nothing: digest()", x.digest(), before);
    }

    /** A call is refused with all numbers outside of least .. most; the # in its text stands for the number. */
    static void refusedOutside(String call, WishPlaces x, long want, int least, int most, CallOf c) {
        for (int v : outside(least, most)) {
            refused(call.replace("#", Integer.toString(v)), x, want, () -> c.answer(v));
        }
    }
}
