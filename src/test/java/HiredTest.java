/** Promises 30 to 35: who is hired, pads for a post, which thumb finds a pad. */
public final class HiredTest {
    public static void main(String[] args) {
        suits();
        luck();
        pads();
        padsNone();
        all();
        finds();
        posts();
        refused();
        Check.end();
    }

    private static void suits() {
        ThumbReader x = Check.office("h23450 t00 t10 l20 p23451 p34561 p23461 p00001");
        Check.due("just so", x.suits(0, 0, 0), 2);
        Check.due("one too few at each", x.suits(0, 0, 1), 0);
        Check.due("by luck", x.suits(1, 0, 0), 1);
        Check.due("by luck at each", x.suits(1, 0, 1), 1);
        Check.due("one too few at one", x.suits(0, 0, 2), 0);
        Check.due("by luck of a LIGHT one", x.suits(2, 0, 1), 1);
        Check.due("nothing is needed", x.suits(1, 0, 3), 2);
        for (int place = 0; place < 4; place++) {
            StringBuilder need = new StringBuilder("00001");
            need.setCharAt(place, '3');
            ThumbReader y = Check.office("h22220 t00 t10 t20 p" + need);
            Check.due("3 for a 2 at PLACE " + place, y.suits(0, 0, 0), 0);
            Check.due("3 for 1 .. 3 at PLACE " + place, y.suits(1, 0, 0), 1);
            Check.due("pads at PLACE " + place, y.pads(0, 0, 0, 0), 1);
            Check.due("all at PLACE " + place, y.all(0, 0), 3);
        }
    }

    private static void luck() {
        ThumbReader x = Check.office("h23450 t00 t10 t20 p23451 p33451 p34561 p66661");
        Check.fraction("surely", x, x.luck(0, 0, 0), 1, 1);
        Check.fraction("not", x, x.luck(0, 0, 1), 0, 1);
        Check.fraction("two of three, four times", x, x.luck(1, 0, 0), 16, 81);
        Check.fraction("one and two, two, two of three", x, x.luck(1, 0, 1), 8, 81);
        Check.fraction("one of three, four times", x, x.luck(1, 0, 2), 1, 81);
        Check.fraction("three of five, four times", x, x.luck(2, 0, 0), 81, 625);
        Check.fraction("never", x, x.luck(2, 0, 3), 0, 1);
        ThumbReader y = Check.office("h00000 t10 t20 p10001");
        Check.fraction("one of two at 0", y, y.luck(0, 0, 0), 1, 2);
        Check.fraction("two of three at 0", y, y.luck(1, 0, 0), 2, 3);
    }

    private static void pads() {
        ThumbReader x = Check.office("h12340 h12343 t00 v10 l00 w02 p24541");
        Check.due("pads by a THUMB", x.pads(0, 0, 0, 4), 5);
        Check.rowIs("pads by a THUMB", x, 4, 1, 2, 2, 0);
        Check.due("pads by a LIGHT one", x.pads(2, 0, 0, 4), 2);
        Check.rowIs("pads by a LIGHT one", x, 4, 0, 1, 1, 0);
        Check.due("pads by a WISHING one", x.pads(3, 0, 0, 4), 4);
        Check.rowIs("pads by a WISHING one", x, 4, 1, 2, 1, 0);
        Check.due("pads under HAIR", x.pads(2, 1, 0, 3), 5);
        Check.rowIs("pads under HAIR", x, 3, 1, 2, 2, 0);
        Check.due("no DEEDS", x.count(3), 0);
        Check.fill(x, 3, 1, 2, 3, 4, 5, 6);
        Check.due("the ROW is there anew", x.pads(0, 0, 0, 3), 5);
        Check.rowIs("the ROW is there anew", x, 3, 1, 2, 2, 0);
        ThumbReader y = Check.office("h00003 t00 p10001");
        Check.due("under HAIR the first PAD is not felt", y.pads(0, 0, 0, 0), 2);
        Check.rowIs("under HAIR the first PAD is not felt", y, 0, 2, 0, 0, 0);
    }

    private static void padsNone() {
        ThumbReader x = Check.office("h12340 t00 v10 l00 d00 p24541 p00061");
        Check.unchanged("by a HEAVY one that errs", x, () -> x.pads(1, 0, 0, 4), Check.NONE);
        Check.unchanged("a NEED of 6", x, () -> x.pads(0, 0, 1, 4), Check.NONE);
        Check.due("a NEED of 6 by a LIGHT one", x.pads(2, 0, 1, 4), 1);
        Check.unchanged("a DULL one READS 3 at most", x, () -> x.pads(3, 0, 0, 4), Check.NONE);
    }

    private static void all() {
        ThumbReader x = Check.office("h12340 h12343 t00 l00 w02 p24541 p00061 p02301");
        Check.due("all(0, 0)", x.all(0, 0), 5);
        Check.unchanged("all(0, 1)", x, () -> x.all(0, 1), Check.NONE);
        Check.unchanged("all(1, 0): under HAIR a BUMP 5 is 4", x, () -> x.all(1, 0), Check.NONE);
        Check.due("all(1, 2): under HAIR", x.all(1, 2), 2);
        Check.due("all(0, 2)", x.all(0, 2), 0);
        ThumbReader apart = Check.office("h22220 w00 w01 p33221");
        Check.due("each THUMB needs another PAD", apart.all(0, 0), 2);
        ThumbReader none = Check.office("h12340 p24541");
        Check.unchanged("no THUMBS", none, () -> none.all(0, 0), Check.STATE);
        Check.unchanged("no THUMBS: BAD first", none, () -> none.all(1, 0), Check.BAD);
    }

    private static void finds() {
        ThumbReader x = Check.office("h00450 t00 v00 t10 l00");
        Check.due("the first other one", x.finds(0, 0, 2), 1);
        Check.due("not itself", x.finds(1, 0, 2), 0);
        Check.due("a HEAVY one does not feel the first PAD", x.finds(0, 0, 0), 3);
        Check.due("nor does one that errs", x.finds(3, 0, 0), 0);
        Check.unchanged("at 5", x, () -> x.finds(0, 0, 3), Check.STATE);
        ThumbReader y = Check.office("h00443 d00 t10 t00");
        Check.unchanged("under HAIR", y, () -> y.finds(2, 0, 0), Check.NONE);
        ThumbReader dull = Check.office("h34440 t00 d00");
        Check.due("a DULL one below 3", dull.finds(0, 0, 0), 1);
        Check.unchanged("a DULL one at 3", dull, () -> dull.finds(0, 0, 1), Check.NONE);
        ThumbReader one = Check.office("h34440 t00");
        Check.unchanged("no other THUMB", one, () -> one.finds(0, 0, 1), Check.NONE);
    }

    private static void posts() {
        ThumbReader x = Check.office("h23450 t10 p23451 p12341 p66661 p00001");
        Check.both("posts(0, 0)", x, x.posts(0, 0), 0b1010, 0b1011);
        ThumbReader none = Check.office("h23450 t10");
        Check.both("no POSTS", none, none.posts(0, 0), 0, 0);
    }

    private interface Call {
        int by(ThumbReader x, int a, int b, int c, int d);
    }

    /** One THUMB, one HEAD, one POST: each number that is none, one at a time. */
    private static void refused(String name, Call call, int... tops) {
        ThumbReader x = Check.office("h55550 t00 p11111");
        x.row(0, 1);
        for (int i = 0; i < tops.length; i++) {
            for (int bad : new int[] {-1, tops[i], Integer.MIN_VALUE, Integer.MAX_VALUE}) {
                int[] a = new int[4];
                a[i] = bad;
                Check.unchanged(name + ", number " + i + " is " + bad, x, () -> call.by(x, a[0], a[1], a[2], a[3]), Check.BAD);
            }
        }
    }

    private static void refused() {
        refused("suits", (x, a, b, c, d) -> x.suits(a, b, c), 1, 1, 1);
        refused("luck", (x, a, b, c, d) -> x.luck(a, b, c), 1, 1, 1);
        refused("pads", ThumbReader::pads, 1, 1, 1, 6);
        refused("all", (x, a, b, c, d) -> x.all(a, b), 1, 1);
        refused("finds", (x, a, b, c, d) -> x.finds(a, b, c), 1, 1, 4);
        refused("posts", (x, a, b, c, d) -> x.posts(a, b), 1, 1);
    }
}
