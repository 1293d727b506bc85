/** Promises 10 to 16: faults, offices, heads, thumbs, posts, marks, errors. */
public final class OfficesTest {
    public static void main(String[] args) {
        faults();
        figures();
        faultRefused();
        office();
        officeAnew();
        smallerOffice();
        heads();
        thumbs();
        posts();
        marks();
        markRefused();
        error();
        Check.end();
    }

    private static void fault(String signs, int want) {
        ThumbReader x = new ThumbReader();
        Check.write(x, 2, signs);
        Check.due("fault of '" + signs + "'", x.fault(2), want);
        if (want == Check.NONE) {
            return;
        }
        Check.unchanged("office of '" + signs + "'", x, () -> x.office(2), Check.STATE);
    }

    private static void faults() {
        fault("", 0);
        fault("   ", 3);
        fault("h00000", Check.NONE);
        fault("  h55553  ", Check.NONE);
        fault("h00000t00p00001", Check.NONE);
        fault("h00000 p66669", Check.NONE);
        fault("h00000v23l10w01c02", Check.NONE);
        fault("h00000v23l10w01c02d03", 18);
        fault("h00000h00000h00000h00000h00000", Check.NONE);
        fault("h00000h00000h00000h00000h00000h00000", 30);
        fault("h00000h00000h00000h00000h00000 h", 31);
        fault("h00000t00t00t00t00t00", 18);
        fault("h00000 p00001p00001p00001p00001p", 31);
        fault("h0000", 5);
        fault("h", 1);
        fault("h000 00", 4);
        fault("h60000", 1);
        fault("h00060", 4);
        fault("h00004", 5);
        fault("h0000a", 5);
        fault("h000/0", 4);
        fault("h00000t3", 7);
        fault("h00000t04", 8);
        fault("h00000t0", 8);
        fault("h00000t", 7);
        fault("h00000p70001", 7);
        fault("h00000p00000", 11);
        fault("h00000p0000", 11);
        fault("h00000p0000:", 11);
        fault("t00h00000", 0);
        fault(" p00001h00000", 1);
        fault("h00000t00h00000", 9);
        fault("h00000p00001h00000", 12);
        fault("h00000p00001t00", 12);
        fault("h00000x", 6);
        fault("h00000H", 6);
        fault("h000000", 6);
        fault("\u00e900000", 0);
    }

    /** Each figure of each sort at its bounds, and just out of them. */
    private static void figures() {
        figure("h", "00000", "55553", "");
        figure("t", "00", "23", "h00000");
        figure("p", "00001", "66669", "h00000");
    }

    private static void figure(String letter, String lowest, String highest, String ahead) {
        fault(ahead + letter + lowest, Check.NONE);
        fault(ahead + letter + highest, Check.NONE);
        for (int i = 0; i < lowest.length(); i++) {
            int place = ahead.length() + 1 + i;
            char below = (char) (lowest.charAt(i) - 1);
            char above = (char) (highest.charAt(i) + 1);
            fault(ahead + letter + lowest.substring(0, i) + below + lowest.substring(i + 1), place);
            fault(ahead + letter + lowest.substring(0, i) + above + lowest.substring(i + 1), place);
        }
    }

    private static void faultRefused() {
        ThumbReader x = Check.office("h12340t10p11111");
        Check.unchanged("fault(4)", x, () -> x.fault(4), Check.BAD);
        Check.unchanged("fault(-1)", x, () -> x.fault(-1), Check.BAD);
        Check.finding("fault(1)", x, () -> x.fault(1), Check.NOTHING);
        Check.write(x, 1, "h55555");
        Check.unchanged("fault(1) leaves the office", x, () -> x.fault(1), 5);
        Check.write(x, 1, "h55553h00000");
        Check.unchanged("no fault leaves the office, too", x, () -> x.fault(1), Check.NONE);
    }

    private static void office() {
        ThumbReader x = Check.office("h12340 h55553 t10 c23 p01236");
        Check.due("HEADS", x.count(0), 2);
        Check.due("THUMBS", x.count(1), 2);
        Check.due("POSTS", x.count(2), 1);
        Check.unchanged("office(4)", x, () -> x.office(4), Check.BAD);
        Check.unchanged("office(-1)", x, () -> x.office(-1), Check.BAD);
        Check.finding("office(1)", x, () -> x.office(1), Check.NOTHING);
        x.text(1, 0);
        Check.unchanged("office of an empty one", x, () -> x.office(1), Check.STATE);
    }

    private static void officeAnew() {
        ThumbReader x = Check.office("h12340 h55553 t10 c23 p01236");
        x.pad(0, 0);
        x.error(0, 2);
        x.keep(0);
        x.keep(2);
        Check.due("DEEDS ahead", x.count(3), 1);
        Check.due("kept ahead", x.count(8), 2);
        Check.due("office(0) anew", x.office(0), 2);
        Check.due("DEEDS behind", x.count(3), 0);
        Check.due("kept behind", x.count(8), 0);
        Check.finding("on(0) behind", x, () -> x.on(0), Check.NOTHING);
        Check.told("the BUMP is as told", x, x.head(0, 0), 1);
        Check.told("the ERROR is as told", x, x.thumb(0, 1), 1);
        Check.write(x, 1, "h00003");
        Check.due("another office", x.office(1), 1);
        Check.due("no THUMBS", x.count(1), 0);
        Check.due("no POSTS", x.count(2), 0);
        Check.due("the second HEAD is gone", x.head(1, 0), Check.BAD);
    }

    /** Nothing of a greater OFFICE is left in a smaller one. */
    private static void smallerOffice() {
        ThumbReader x = Check.office("h55550h55550h55550h55550h55550 t00l20c20d20 p00009p00009p00009p00009");
        x.office(0);
        x.office(0);
        Check.write(x, 1, "h44440 l00 p00001");
        Check.due("the smaller one", x.office(1), 1);
        Check.due("BUMPS together", x.count(4), 16);
        Check.due("WISHING ones", x.count(5), 0);
        Check.due("the greatest MOST", x.mark(0, 2), 5);
        Check.fill(x, 0, 5, 5, 5, 5);
        Check.both("whose", x, x.whose(0, 0), 1, 1);
        Check.due("who", x.who(0, 0), 1);
        Check.fraction("odds", x, x.odds(0, 0, 0), 1, 1);
        Check.both("look", x, x.look(0), 0, 0);
        Check.due("alike", x.alike(0, 0), 1);
        Check.both("posts", x, x.posts(0, 0), 1, 1);
        Check.due("finds", x.finds(0, 0, 0), Check.NONE);
        Check.due("plan", x.plan(0, 0), 1);
        Check.rowIs("plan", x, 0, 0);
        Check.fraction("plans", x, x.plans(0), 2, 1);
        Check.due("safest", x.safest(0), 1);
        Check.due("lots", x.lots(0, 5, 1), 5);
        Check.write(x, 1, "h44440 c00");
        x.office(1);
        Check.due("a CLERK's mark", x.mark(0, 4), 5);
        Check.write(x, 1, "h44440 d00");
        x.office(1);
        Check.due("a DULL one's mark", x.mark(0, 5), 4);
    }

    private static void heads() {
        ThumbReader x = Check.office("h12340 h55503");
        int[] first = {1, 2, 3, 4, 0, 10};
        int[] second = {5, 5, 5, 0, 3, 15};
        for (int what = 0; what <= 5; what++) {
            Check.told("head(0, " + what + ")", x, x.head(0, what), first[what]);
            Check.told("head(1, " + what + ")", x, x.head(1, what), second[what]);
        }
        Check.unchanged("head(2, 0)", x, () -> x.head(2, 0), Check.BAD);
        Check.unchanged("head(-1, 0)", x, () -> x.head(-1, 0), Check.BAD);
        Check.unchanged("head(0, 6)", x, () -> x.head(0, 6), Check.BAD);
        Check.unchanged("head(0, -1)", x, () -> x.head(0, -1), Check.BAD);
    }

    private static void thumbs() {
        String[] letters = {"t", "v", "l", "w", "c", "d"};
        for (int kind = 0; kind < 6; kind++) {
            ThumbReader x = Check.office("h00000" + letters[kind] + "23");
            Check.told("KIND of " + letters[kind], x, x.thumb(0, 0), kind);
            Check.told("ERROR of " + letters[kind], x, x.thumb(0, 1), 2);
            Check.told("WISH of " + letters[kind], x, x.thumb(0, 2), 3);
            Check.due("WISHING ones of " + letters[kind], x.count(5), kind == 3 || kind == 4 ? 1 : 0);
            Check.unchanged("thumb(1, 0)", x, () -> x.thumb(1, 0), Check.BAD);
            Check.unchanged("thumb(-1, 0)", x, () -> x.thumb(-1, 0), Check.BAD);
            Check.unchanged("thumb(0, 3)", x, () -> x.thumb(0, 3), Check.BAD);
            Check.unchanged("thumb(0, -1)", x, () -> x.thumb(0, -1), Check.BAD);
        }
    }

    private static void posts() {
        ThumbReader x = Check.office("h00000 p01236 p66669");
        int[] first = {0, 1, 2, 3, 6};
        int[] second = {6, 6, 6, 6, 9};
        for (int what = 0; what <= 4; what++) {
            Check.told("post(0, " + what + ")", x, x.post(0, what), first[what]);
            Check.told("post(1, " + what + ")", x, x.post(1, what), second[what]);
        }
        Check.unchanged("post(2, 0)", x, () -> x.post(2, 0), Check.BAD);
        Check.unchanged("post(-1, 0)", x, () -> x.post(-1, 0), Check.BAD);
        Check.unchanged("post(0, 5)", x, () -> x.post(0, 5), Check.BAD);
        Check.unchanged("post(0, -1)", x, () -> x.post(0, -1), Check.BAD);
    }

    private static void marks() {
        // FELT: 1 0 5 4, and 0 0 1 4 under HAIR.
        ThumbReader x = Check.office("h10540 h01252 v00 l11 w23 c03");
        Check.due("a HEAVY one: BUMPS FELT that are 0", x.mark(0, 1), 3);
        Check.due("a LIGHT one: the greatest MOST", x.mark(1, 2), 7);
        Check.due("a WISHING one: LEASTS 0 0 3 3, 0 0 0 3", x.mark(2, 3), 1);
        Check.due("a CLERK as a WISHING one: LEASTS 2 1 6 6, 1 1 2 6", x.mark(3, 3), 1);
        Check.due("a CLERK", x.mark(3, 4), 10);
        x.error(3, 2);
        Check.due("a CLERK that errs: LEASTS 0 0 4 4, 0 0 0 4", x.mark(3, 4), -3);
        ThumbReader hair = Check.office("h00003 l00 l10 c00 c21");
        Check.due("HAIR is no BUMP: a LIGHT one", hair.mark(0, 2), 1);
        Check.due("HAIR is no BUMP: a LIGHT one that errs", hair.mark(1, 2), 2);
        Check.due("HAIR is no BUMP: a CLERK", hair.mark(2, 4), 5);
        Check.due("HAIR is no BUMP: a CLERK as a WISHING one", hair.mark(2, 3), 1);
        Check.due("a CLERK that errs by 2: all LEASTS are 0", hair.mark(3, 3), 0);
        ThumbReader wish = Check.office("h30001 h23000 h32000 h02300 h33000 w00 w01 w02 w03");
        Check.due("WISH 0: 4 0 0 0, not 3 3, 4 2, not 1 2 3, 4 3", wish.mark(0, 3), 3);
        Check.due("WISH 1: not 3 1, 2 4, not 3 3, not 0 3 3, 3 4", wish.mark(1, 3), 2);
        Check.due("WISH 2", wish.mark(2, 3), 1);
        Check.due("WISH 3", wish.mark(3, 3), 0);
        Check.due("HAIR 3 is not above a WISH", Check.office("h22223 w03").mark(0, 3), 1);
        ThumbReader light = Check.office("h50000 h00000 l00");
        Check.due("the greatest MOST is at the first PLACE of the first HEAD", light.mark(0, 2), 6);
        ThumbReader clerk = Check.office("h11110 c20");
        Check.due("LEASTS 1 0 0 0 against 1 1 1 1", clerk.mark(0, 4), -3);
        ThumbReader y = Check.office("h34501 h34502 d20");
        // FELT: 3 4 5 0, and 2 3 4 0; MIDDLES 2 3 3 0, 1 2 3 0.
        Check.due("a DULL one", y.mark(0, 5), 3);
        Check.due("a DULL one as a HEAVY one", y.mark(0, 1), 2);
    }

    private static void markRefused() {
        ThumbReader x = Check.office("h10540 t00 v00 l11 w23");
        Check.unchanged("mark(0, 0)", x, () -> x.mark(0, 0), Check.BAD);
        Check.unchanged("mark(0, 6)", x, () -> x.mark(0, 6), Check.BAD);
        Check.unchanged("mark(0, -1)", x, () -> x.mark(0, -1), Check.BAD);
        Check.unchanged("mark(4, 1)", x, () -> x.mark(4, 1), Check.BAD);
        Check.unchanged("mark(-1, 1)", x, () -> x.mark(-1, 1), Check.BAD);
        boolean[][] is = {
            {false, false, false, false, false}, {true, false, false, false, false},
            {false, true, false, false, false}, {false, false, true, false, false},
            {false, false, true, true, false}, {true, false, false, false, true}};
        String letters = "tvlwcd";
        for (int kind = 0; kind < 6; kind++) {
            ThumbReader y = Check.office("h00000" + letters.charAt(kind) + "00");
            for (int asked = 1; asked <= 5; asked++) {
                int which = asked;
                if (is[kind][asked - 1]) {
                    Check.due("KIND " + kind + " is a " + asked, y.mark(0, asked) == Check.FINDING ? 1 : 0, 0);
                } else {
                    Check.finding("KIND " + kind + " is no " + asked, y, () -> y.mark(0, which), Check.UNLIKE);
                }
            }
        }
    }

    private static void error() {
        ThumbReader x = Check.office("h10540 t00 v20");
        Check.due("error(0, 2)", x.error(0, 2), 0);
        Check.due("error(0, 0)", x.error(0, 0), 2);
        Check.due("error(0, 1)", x.error(0, 1), 0);
        Check.told("thumb(0, 1)", x, x.thumb(0, 1), 1);
        Check.told("the other's stays", x, x.thumb(1, 1), 2);
        Check.due("an ERROR is no DEED", x.count(3), 0);
        Check.unchanged("error(0, 3)", x, () -> x.error(0, 3), Check.BAD);
        Check.unchanged("error(0, -1)", x, () -> x.error(0, -1), Check.BAD);
        Check.unchanged("error(2, 0)", x, () -> x.error(2, 0), Check.BAD);
        Check.unchanged("error(-1, 0)", x, () -> x.error(-1, 0), Check.BAD);
    }
}
