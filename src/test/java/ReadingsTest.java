/** Promises 23 to 29: what thumbs read, whose a reading is, odds, where to look, who is alike. */
public final class ReadingsTest {
    public static void main(String[] args) {
        reads();
        hair();
        readsRefused();
        fits();
        whoseAndWho();
        readingRefused();
        odds();
        look();
        alike();
        Check.end();
    }

    private static void range(ThumbReader x, int t, int h, int place, int least, int most) {
        Check.both("reads(" + t + ", " + h + ", " + place + ")", x, x.reads(t, h, place), least, most);
    }

    private static void reads() {
        // Each KIND with ERROR 0 and WISH 1 on BUMPS 0, 0, 3, 5: the MIDDLES.
        int[][] middles = {{0, 0, 3, 5}, {0, 0, 2, 4}, {1, 1, 4, 6}, {0, 1, 3, 5}, {1, 2, 4, 6}, {0, 0, 2, 3}};
        String letters = "tvlwcd";
        for (int kind = 0; kind < 6; kind++) {
            ThumbReader x = Check.office("h00351 " + letters.charAt(kind) + "01");
            for (int error = 0; error <= 2; error++) {
                x.error(0, error);
                for (int place = 0; place < 4; place++) {
                    int middle = middles[kind][place];
                    range(x, 0, 0, place, Math.max(0, middle - error), middle + error);
                }
            }
        }
        ThumbReader most = Check.office("h55550 c23");
        range(most, 0, 0, 3, 5, 9);
    }

    private static void hair() {
        for (int hair = 0; hair <= 3; hair++) {
            int hidden = hair > 1 ? 1 : 0;
            ThumbReader x = Check.office("h0125" + hair + "t00 d00 c00");
            range(x, 0, 0, 0, 0, 0);
            range(x, 0, 0, 1, 1 - hidden, 1 - hidden);
            range(x, 0, 0, 3, 5 - hidden, 5 - hidden);
            range(x, 1, 0, 0, 0, 0);
            range(x, 1, 0, 2, 1 - hidden, 1 - hidden);
            range(x, 1, 0, 3, 3, 3);
            range(x, 2, 0, 0, 2, 2);
            range(x, 2, 0, 2, 3 - hidden, 3 - hidden);
        }
    }

    private static void readsRefused() {
        ThumbReader x = Check.office("h12340 t00");
        x.reads(0, 0, 2);
        Check.unchanged("reads(1, 0, 0)", x, () -> x.reads(1, 0, 0), Check.BAD);
        Check.unchanged("reads(-1, 0, 0)", x, () -> x.reads(-1, 0, 0), Check.BAD);
        Check.unchanged("reads(0, 1, 0)", x, () -> x.reads(0, 1, 0), Check.BAD);
        Check.unchanged("reads(0, -1, 0)", x, () -> x.reads(0, -1, 0), Check.BAD);
        Check.unchanged("reads(0, 0, 4)", x, () -> x.reads(0, 0, 4), Check.BAD);
        Check.unchanged("reads(0, 0, -1)", x, () -> x.reads(0, 0, -1), Check.BAD);
    }

    private static void fits() {
        ThumbReader x = Check.office("h12340 t10");
        Check.fill(x, 0, 0, 1, 2, 3);
        Check.due("the LEASTS", x.fits(0, 0, 0), 1);
        Check.fill(x, 0, 2, 3, 4, 5);
        Check.due("the MOSTS", x.fits(0, 0, 0), 1);
        Check.fill(x, 0, 2, 3, 4, 6);
        Check.due("above a MOST", x.fits(0, 0, 0), 0);
        Check.fill(x, 0, 2, 0, 4, 5);
        Check.due("below a LEAST", x.fits(0, 0, 0), 0);
    }

    private static void whoseAndWho() {
        ThumbReader x = Check.office("h22220 h33330 h22230 t00 l00 t10");
        Check.fill(x, 5, 3, 3, 3, 3);
        Check.both("whose(0, 5)", x, x.whose(0, 5), 0b010, 0b111);
        Check.both("whose(1, 5)", x, x.whose(1, 5), 0b001, 0b111);
        Check.both("whose(2, 5)", x, x.whose(2, 5), 0b111, 0b111);
        Check.due("who(0, 5)", x.who(0, 5), 0b110);
        Check.due("who(1, 5)", x.who(1, 5), 0b101);
        Check.due("who(2, 5)", x.who(2, 5), 0b100);
        Check.fill(x, 5, 9, 9, 9, 9);
        Check.both("nobody's", x, x.whose(2, 5), 0, 0);
        Check.due("by none", x.who(2, 5), 0);
        ThumbReader y = Check.office("h22220");
        Check.fill(y, 5, 2, 2, 2, 2);
        Check.due("no THUMBS", y.who(0, 5), 0);
    }

    private interface Call {
        int by(ThumbReader x, int t, int h, int r);
    }

    private static void readingRefused() {
        readingRefused("fits", ThumbReader::fits);
        readingRefused("odds", ThumbReader::odds);
        readingRefused("whose", (x, t, h, r) -> h == 0 ? x.whose(t, r) : Check.BAD);
        readingRefused("who", (x, t, h, r) -> t == 0 ? x.who(h, r) : Check.BAD);
    }

    private static void readingRefused(String name, Call call) {
        ThumbReader x = Check.office("h12340 t00");
        Check.finding(name + " without the ROW", x, () -> call.by(x, 0, 0, 0), Check.NOTHING);
        int[][] bad = {{1, 0, 0}, {-1, 0, 0}, {0, 1, 0}, {0, -1, 0}, {0, 0, 6}, {0, 0, -1}};
        for (int[] b : bad) {
            Check.unchanged(name + " by " + b[0] + ", " + b[1] + ", " + b[2], x, () -> call.by(x, b[0], b[1], b[2]), Check.BAD);
        }
        Check.fill(x, 0, 1, 2, 10);
        Check.finding(name + " of three: SIZE first", x, () -> call.by(x, 0, 0, 0), Check.SIZE);
        Check.fill(x, 0, 1, 2, 3, 4, 5);
        Check.finding(name + " of five", x, () -> call.by(x, 0, 0, 0), Check.SIZE);
        Check.fill(x, 0, 1, 2, 3, 10);
        Check.finding(name + " of a 10", x, () -> call.by(x, 0, 0, 0), Check.UNLIKE);
        Check.fill(x, 0, -1, 2, 3, 4);
        Check.finding(name + " of a -1", x, () -> call.by(x, 0, 0, 0), Check.UNLIKE);
        x.row(0, 0);
        Check.finding(name + " of none", x, () -> call.by(x, 0, 0, 0), Check.SIZE);
    }

    private static void odds() {
        // By ERROR 1 a BUMP 0 is READ in 2 ways, another one in 3.
        ThumbReader x = Check.office("h00000 h11110 h55550 t10");
        Check.fill(x, 0, 1, 1, 1, 1);
        Check.fraction("81 by 97", x, x.odds(0, 0, 0), 81, 97);
        Check.fraction("16 by 97", x, x.odds(0, 1, 0), 16, 97);
        Check.fraction("it can't be that one", x, x.odds(0, 2, 0), 0, 1);
        Check.fill(x, 0, 2, 1, 1, 1);
        Check.fraction("surely", x, x.odds(0, 1, 0), 1, 1);
        Check.fill(x, 0, 9, 9, 9, 9);
        Check.finding("nobody's", x, () -> x.odds(0, 0, 0), Check.NOUGHT);
        ThumbReader y = Check.office("h00000 h11110 h00010 h00110 h01110 t20");
        // 81 by 108 by 144 by 192 by 256 ways (3 at a BUMP 0, 4 at a BUMP 1): shares 256 : 192 : 144 : 108 : 81 of 781.
        Check.fill(y, 0, 0, 1, 2, 2);
        Check.fraction("all five fit: the first", y, y.odds(0, 0, 0), 256, 781);
        Check.fraction("all five fit: the second", y, y.odds(0, 1, 0), 81, 781);
        Check.fraction("all five fit: the fourth", y, y.odds(0, 3, 0), 144, 781);
        Check.due("odds alone do not change asked()", y.asked(), 0);
    }

    private static void look() {
        ThumbReader x = Check.office("h12000 h13000 h14500 t00 t10 t20");
        Check.both("look(0): place 1 tells three pairs, place 2 two", x, x.look(0), 1, 3);
        Check.both("look(1): place 2 tells two pairs", x, x.look(1), 2, 2);
        Check.both("look(2)", x, x.look(2), 2, 2);
        ThumbReader y = Check.office("h33330 h33330 t00");
        Check.both("nothing tells them apart", y, y.look(0), 0, 0);
        ThumbReader z = Check.office("h35330 h53330 t00");
        Check.both("the first of alike ones", z, z.look(0), 0, 1);
        ThumbReader hair = Check.office("h33330 h33331 t00");
        Check.both("HAIR is not looked at", hair, hair.look(0), 0, 0);
        Check.due("HAIR tells nobody apart", hair.alike(0, 0), 0b11);
        ThumbReader touch = Check.office("h13500 h35100 t10");
        Check.both("0 .. 2 and 2 .. 4 have a 2 in common; 4 .. 6 and 0 .. 2 nothing", touch, touch.look(0), 2, 1);
        ThumbReader near = Check.office("h13000 h31000 t10");
        Check.both("0 .. 2 and 2 .. 4, either way", near, near.look(0), 0, 0);
        Check.due("alike, either way", near.alike(0, 0), 0b11);
        Check.due("alike, either way", near.alike(0, 1), 0b11);
        ThumbReader first = Check.office("h10000 h20000 t00");
        Check.due("the first PLACE tells them apart", first.alike(0, 0), 0b01);
        ThumbReader one = Check.office("h35330 t00");
        Check.both("one HEAD", one, one.look(0), 0, 0);
        Check.unchanged("look(1)", one, () -> one.look(1), Check.BAD);
        Check.unchanged("look(-1)", one, () -> one.look(-1), Check.BAD);
    }

    private static void alike() {
        ThumbReader x = Check.office("h33330 h33350 h33310 t10 t00 d00");
        Check.due("alike(0, 0)", x.alike(0, 0), 0b111);
        Check.due("alike(0, 1)", x.alike(0, 1), 0b011);
        Check.due("alike(0, 2)", x.alike(0, 2), 0b101);
        Check.due("alike(1, 0)", x.alike(1, 0), 0b001);
        Check.due("a DULL one: 3 and 2", x.alike(2, 1), 0b010);
        ThumbReader y = Check.office("h45550 h54550 d00");
        Check.due("a DULL one takes 5 for 4", y.alike(0, 0), 0b11);
        Check.unchanged("alike(3, 0)", x, () -> x.alike(3, 0), Check.BAD);
        Check.unchanged("alike(-1, 0)", x, () -> x.alike(-1, 0), Check.BAD);
        Check.unchanged("alike(0, 3)", x, () -> x.alike(0, 3), Check.BAD);
        Check.unchanged("alike(0, -1)", x, () -> x.alike(0, -1), Check.BAD);
    }
}
