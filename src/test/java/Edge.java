/** What the tests of boundary cases share. Each case has an object of its own, so none is called 512 times. */
class Edge extends Check {
    static final int MIN = Integer.MIN_VALUE, MAX = Integer.MAX_VALUE;

    /** As many HEADS, THUMBS and POSTS as there may be. */
    static final String WHOLE = "h13520h25143h00530h44411h50002 t10v01l20c13 p23105p00429p44213p66661";

    interface Made {
        ThumbReader make();
    }

    interface Call {
        int on(ThumbReader x);
    }

    interface Numbered {
        int on(ThumbReader x, int v);
    }

    /**
     * Something of everything: ROW 0 a READING, ROW 1 threes, ROW 2 what became of HEADS, ROW 3 empty, ROW 4 full, ROW 5
     * missing; TEXT 0 the OFFICE, TEXT 1 empty, TEXT 2 with a FAULT, TEXT 3 missing; three DEEDS, an OFFICE kept in 1.
     */
    static ThumbReader whole() {
        ThumbReader x = office(WHOLE);
        fill(x, 0, 1, 3, 5, 2);
        fill(x, 1, 0, 0, 2, 1, 3, 5);
        fill(x, 2, 1, 0, 0, 1, 0);
        x.row(3, 0);
        x.row(4, 40);
        x.lay(4, 39, 7);
        x.text(1, 0);
        write(x, 2, "h0000");
        x.pad(0, 0);
        x.cut(1, 1);
        x.keep(1);
        x.grow(2);
        x.error(0, 2);
        x.luck(0, 0, 0);
        x.at(5, 0);
        x.head(3, 5);
        return x;
    }

    /** With ROW 0 torn. */
    static ThumbReader tornOnce() {
        ThumbReader x = whole();
        due("tear(0)", x.tear(0), 1);
        return x;
    }

    /** One HEAD, one THUMB, one POST, and every ROW a READING that fits. */
    static ThumbReader small() {
        ThumbReader x = office("h23410 t10 p11111");
        for (int r = 0; r < 6; r++) {
            fill(x, r, 2, 3, 4, 1);
        }
        x.head(0, 5);
        return x;
    }

    /** A HEAD and a POST alone. */
    static ThumbReader withoutThumbs() {
        return office("h23410 p11111");
    }

    static ThumbReader withoutPosts() {
        return office("h23410 t10");
    }

    /** 40 DEEDS; HEAD 0 has BUMPS 5 and HAIR 0, HEAD 1 could still be PADDED, GROW and have its HAIR CUT. */
    static ThumbReader full() {
        ThumbReader x = office("h55550 h00003 t10 p11111");
        for (int d = 0; d < 40; d++) {
            due("grow(0)", x.grow(0), 20);
        }
        return x;
    }

    private static long[] told(ThumbReader x) {
        return new long[] {x.digest(), x.asked(), x.upper(), x.lower()};
    }

    private static long[] findings(ThumbReader x) {
        return new long[] {x.finding(), x.findings(1), x.findings(2), x.findings(3), x.findings(4), x.findings(5)};
    }

    /** What can only be seen by going on: the DEEDS that may be undone, what is kept. */
    private static long[] hidden(ThumbReader x) {
        long[] seen = new long[10];
        seen[0] = x.undo(1);
        seen[1] = x.digest();
        seen[2] = x.undo(0);
        seen[3] = x.digest();
        for (int k = 0; k < 3; k++) {
            seen[4 + 2 * k] = x.on(k);
            seen[5 + 2 * k] = x.digest();
        }
        return seen;
    }

    private static void same(String what, long[] got, long[] want) {
        for (int i = 0; i < want.length; i++) {
            due(what + " [" + i + "]", got[i], want[i]);
        }
    }

    /** It answers this and changes nothing but, with a FINDING (0: none), finding() and findings(). */
    private static void changesNothing(Made made, String what, Call call, int answer, int which) {
        ThumbReader x = made.make();
        ThumbReader twin = made.make();
        due(what, call.on(x), answer);
        long[] want = findings(twin);
        if (which != 0) {
            want[0] = which;
            want[which]++;
        }
        same(what + ": finding(), findings()", findings(x), want);
        same(what + ": digest(), asked(), upper(), lower()", told(x), told(twin));
        same(what + ": undone, gone on", hidden(x), hidden(twin));
    }

    static void answers(Made made, String what, Call call, int answer) {
        changesNothing(made, what, call, answer, 0);
    }

    static void bad(Made made, String what, Call call) {
        changesNothing(made, what, call, BAD, 0);
    }

    static void full(Made made, String what, Call call) {
        changesNothing(made, what, call, FULL, 0);
    }

    static void state(Made made, String what, Call call) {
        changesNothing(made, what, call, STATE, 0);
    }

    static void none(Made made, String what, Call call) {
        changesNothing(made, what, call, NONE, 0);
    }

    static void finding(Made made, String what, Call call, int which) {
        changesNothing(made, what, call, FINDING, which);
    }

    /** BAD just below the lowest number, just above the highest and farthest out of them; not BAD at both. */
    static void bounds(Made made, String what, int lowest, int highest, Numbered call) {
        for (int v : new int[] {lowest, highest}) {
            due(what + " of " + v + " is BAD", call.on(made.make(), v) == BAD ? 1 : 0, 0);
        }
        for (int v : new int[] {lowest - 1, MIN}) {
            bad(made, what + " of " + v, x -> call.on(x, v));
        }
        if (highest < MAX) {
            bad(made, what + " of " + (highest + 1), x -> call.on(x, highest + 1));
            bad(made, what + " of " + MAX, x -> call.on(x, MAX));
        }
    }

    static void bounds(String what, int lowest, int highest, Numbered call) {
        bounds(Edge::whole, what, lowest, highest, call);
    }

    static void rowNumber(String what, Numbered call) {
        bounds(what, 0, 5, call);
    }

    static void textNumber(String what, Numbered call) {
        bounds(what, 0, 3, call);
    }

    static void placeNumber(String what, Numbered call) {
        bounds(what, 0, 3, call);
    }

    static void headNumber(String what, Numbered call) {
        bounds(what, 0, 4, call);
        bounds(Edge::small, what + ", one HEAD", 0, 0, call);
        bad(ThumbReader::new, what + ", no HEADS", x -> call.on(x, 0));
    }

    static void thumbNumber(String what, Numbered call) {
        bounds(what, 0, 3, call);
        bounds(Edge::small, what + ", one THUMB", 0, 0, call);
        bad(Edge::withoutThumbs, what + ", no THUMBS", x -> call.on(x, 0));
        bad(ThumbReader::new, what + ", no HEADS", x -> call.on(x, 0));
    }

    static void postNumber(String what, Numbered call) {
        bounds(what, 0, 3, call);
        bounds(Edge::small, what + ", one POST", 0, 0, call);
        bad(Edge::withoutPosts, what + ", no POSTS", x -> call.on(x, 0));
        bad(ThumbReader::new, what + ", no HEADS", x -> call.on(x, 0));
    }

    static void headIs(String what, ThumbReader x, int h, int... numbers) {
        for (int i = 0; i < numbers.length; i++) {
            told(what + ": head(" + h + ", " + i + ")", x, x.head(h, i), numbers[i]);
        }
    }
}
