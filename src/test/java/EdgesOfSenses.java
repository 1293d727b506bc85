/** Section 1 from the KINDS on, sections 2 and 3: what is felt, read and done, plans, readings, lots. */
final class EdgesOfSenses extends Edge {
    private static final String LETTERS = "tvlwcd";

    /** What a THUMB of ERROR 0 READS is its MIDDLE. */
    private static void middle(String what, String head, String thumb, int place, int want) {
        ThumbReader x = office(head + thumb);
        both(what + ": " + head + " " + thumb + " at " + place, x, x.reads(0, 0, place), want, want);
    }

    private static void range(ThumbReader x, int place, int least, int most) {
        both("reads(0, 0, " + place + ")", x, x.reads(0, 0, place), least, most);
    }

    @Holds(in = "Section 1", says = "KINDS of THUMBS and letters: 0 THUMB (t, 116), 1 HEAVY (v, 118; a THUMB), "
        + "2 LIGHT (l, 108; a THUMB), 3 WISHING (w, 119; a THUMB), 4 CLERK (c, 99; a WISHING), 5 DULL (d, 100; a HEAVY).")
    static void lettersOfKinds() {
        int[] letters = {116, 118, 108, 119, 99, 100};
        for (int kind = 0; kind < 6; kind++) {
            ThumbReader x = office("h00000" + (char) letters[kind] + "00");
            told("KIND of letter " + letters[kind], x, x.thumb(0, 0), kind);
        }
    }

    @Holds(in = "Section 1", says = "KINDS of THUMBS and letters: 0 THUMB (t, 116), 1 HEAVY (v, 118; a THUMB), "
        + "2 LIGHT (l, 108; a THUMB), 3 WISHING (w, 119; a THUMB), 4 CLERK (c, 99; a WISHING), 5 DULL (d, 100; a HEAVY).")
    static void whatKindsAre() {
        String[] kinds = {"", "1", "2", "3", "34", "15"};
        for (int kind = 0; kind < 6; kind++) {
            String office = "h00000" + LETTERS.charAt(kind) + "00";
            for (int asked = 1; asked <= 5; asked++) {
                int which = asked;
                String what = "KIND " + kind + " as a " + asked;
                if (kinds[kind].indexOf('0' + asked) < 0) {
                    finding(() -> office(office), what, x -> x.mark(0, which), UNLIKE);
                } else {
                    due(what, office(office).mark(0, which) == FINDING ? 1 : 0, 0);
                }
            }
        }
    }

    @Holds(in = "Section 1", says = "A BUMP FELT is the BUMP, 1 less under HAIR above 1 (0 at least).")
    static void feltUnderHair() {
        for (int bump = 0; bump <= 5; bump++) {
            String bumps = "h" + bump + bump + bump + bump;
            int less = Math.max(0, bump - 1);
            for (int place = 0; place < 4; place++) {
                middle("HAIR 0", bumps + "0", "t00", place, bump);
                middle("HAIR 1", bumps + "1", "t00", place, bump);
                middle("HAIR 2", bumps + "2", "t00", place, less);
                middle("HAIR 3", bumps + "3", "t00", place, less);
            }
        }
    }

    @Holds(in = "Section 1", says = "A THUMB's MIDDLE of it is as FELT")
    static void middleOfAThumb() {
        middle("0", "h05000", "t00", 0, 0);
        middle("5", "h05000", "t00", 1, 5);
        middle("no WISH", "h30000", "t00", 0, 3);
    }

    @Holds(in = "Section 1", says = "of a HEAVY one (DULL, too) 1 less, 0 at least")
    static void middleOfAHeavyOne() {
        for (String thumb : new String[] {"v00", "d00"}) {
            middle("0 at least", "h00000", thumb, 0, 0);
            middle("1 less", "h10000", thumb, 0, 0);
            middle("2 is 1", "h20000", thumb, 0, 1);
            middle("under HAIR 2 is 0", "h20002", thumb, 0, 0);
            middle("under HAIR 0 is 0", "h00003", thumb, 0, 0);
        }
        middle("5 is 4", "h50000", "v00", 0, 4);
    }

    @Holds(in = "Section 1", says = "of a LIGHT one 1 more")
    static void middleOfALightOne() {
        middle("0 is 1", "h00000", "l00", 1, 1);
        middle("5 is 6", "h05000", "l00", 1, 6);
        middle("no more at its WISH", "h50000", "l00", 0, 6);
        middle("0 under HAIR is 1", "h00003", "l00", 1, 1);
    }

    @Holds(in = "Section 1", says = "of a WISHING one (CLERK, too) 1 more at its WISH")
    static void middleOfAWishingOne() {
        for (int wish = 0; wish < 4; wish++) {
            for (int place = 0; place < 4; place++) {
                middle("at " + place, "h55550", "w0" + wish, place, place == wish ? 6 : 5);
                middle("at " + place, "h00003", "w0" + wish, place, place == wish ? 1 : 0);
            }
        }
    }

    @Holds(in = "Section 1", says = "of a CLERK 1 more at each PLACE besides (so 2 at its WISH)")
    static void middleOfAClerk() {
        for (int wish = 0; wish < 4; wish++) {
            for (int place = 0; place < 4; place++) {
                middle("at " + place, "h55550", "c0" + wish, place, place == wish ? 7 : 6);
                middle("at " + place, "h00003", "c0" + wish, place, place == wish ? 2 : 1);
            }
        }
    }

    @Holds(in = "Section 1", says = "of a DULL one then 3 at most.")
    static void middleOfADullOne() {
        middle("3 is 2", "h30000", "d00", 0, 2);
        middle("4 is 3: 1 less first", "h40000", "d00", 0, 3);
        middle("5 is 3, not 4", "h50000", "d00", 0, 3);
        middle("4 under HAIR is 2", "h40002", "d00", 0, 2);
        middle("5 under HAIR is 3", "h50002", "d00", 0, 3);
        middle("a HEAVY one has no such end", "h50000", "v00", 0, 4);
    }

    @Holds(in = "Section 1", says = "It READS the MIDDLE, up to the ERROR less (0 at least) or more: from the LEAST to the MOST")
    static void leastAndMost() {
        for (int error = 0; error <= 2; error++) {
            ThumbReader x = office("h01250 t" + error + "0");
            range(x, 0, 0, error);
            range(x, 1, Math.max(0, 1 - error), 1 + error);
            range(x, 2, 2 - error, 2 + error);
            range(x, 3, 5 - error, 5 + error);
        }
        range(office("h00000 v20"), 0, 0, 2);
        range(office("h55550 d20"), 0, 1, 5);
        range(office("h55550 c20"), 0, 5, 9);
        range(office("h55550 c00"), 0, 7, 7);
    }

    @Holds(in = "Section 1", says = "each alike likely.")
    static void eachAlikeLikely() {
        // 0, 1, 2: the LEAST is not likelier, though two numbers below 0 are cut off.
        ThumbReader x = office("h00000 t20 p10001 p20001");
        fraction("1 or 2 of three", x, x.luck(0, 0, 0), 2, 3);
        fraction("2 of three", x, x.luck(0, 0, 1), 1, 3);
        ThumbReader y = office("h30000 t20 p50001");
        fraction("the MOST of five", y, y.luck(0, 0, 0), 1, 5);
    }

    private static String need(int place, int figure) {
        return "p0000".substring(0, 1 + place) + figure + "0000".substring(place + 1) + "1";
    }

    @Holds(in = "Section 2", says = "A HEAD SUITS a POST SURELY by a THUMB, if what it READS at LEAST is no less than the NEED at each PLACE")
    static void surely() {
        for (int place = 0; place < 4; place++) {
            due("LEAST 2, NEED 2", office("h33330 t10" + need(place, 2)).suits(0, 0, 0), 2);
            due("LEAST 2, NEED 3", office("h33330 t10" + need(place, 3)).suits(0, 0, 0), 1);
            due("LEAST 0, NEED 0", office("h00000 t20" + need(place, 0)).suits(0, 0, 0), 2);
        }
    }

    @Holds(in = "Section 2", says = "BY LUCK, if what it READS at MOST is so.")
    static void byLuck() {
        for (int place = 0; place < 4; place++) {
            due("MOST 4, NEED 4", office("h33330 t10" + need(place, 4)).suits(0, 0, 0), 1);
            due("MOST 4, NEED 5", office("h33330 t10" + need(place, 5)).suits(0, 0, 0), 0);
            due("MOST 6, NEED 6", office("h55550 t10" + need(place, 6)).suits(0, 0, 0), 1);
        }
    }

    @Holds(in = "Section 2", says = "What is done: a BUMP is PADDED (1 more, 5 at most)")
    static void padded() {
        for (int place = 0; place < 4; place++) {
            int where = place;
            Made made = () -> office("h44443");
            due("from 4 to 5", made.make().pad(0, place), 5);
            Made five = () -> {
                ThumbReader x = made.make();
                x.pad(0, where);
                return x;
            };
            state(five, "5 at most", x -> x.pad(0, where));
            ThumbReader x = five.make();
            told("17 together", x, x.head(0, 5), 17);
            told("the HAIR stays", x, x.head(0, 4), 3);
        }
    }

    @Holds(in = "Section 2", says = "a HEAD GROWS (each BUMP 1 more, 5 at most)")
    static void grows() {
        ThumbReader x = office("h04530 h00000");
        due("grow(0)", x.grow(0), 1 + 5 + 5 + 4);
        headIs("5 at most", x, 0, 1, 5, 5, 4, 0);
        headIs("the other HEAD stays", x, 1, 0, 0, 0, 0, 0);
        due("grow(0) again", x.grow(0), 2 + 5 + 5 + 5);
        headIs("again", x, 0, 2, 5, 5, 5, 0);
    }

    @Holds(in = "Section 2", says = "HAIR is CUT to a length.")
    static void cutToALength() {
        for (int v = 0; v <= 2; v++) {
            ThumbReader x = office("h12343 h00003");
            due("cut(0, " + v + ")", x.cut(0, v), 3);
            headIs("cut to " + v, x, 0, 1, 2, 3, 4, v);
            headIs("the other HEAD stays", x, 1, 0, 0, 0, 0, 3);
        }
    }

    @Holds(in = "Section 2", says = "These are DEEDS 0, 1, .. (40 at most).")
    static void deeds() {
        ThumbReader x = office("h00003");
        x.pad(0, 0);
        due("a PAD is one", x.count(3), 1);
        x.grow(0);
        due("growing is one", x.count(3), 2);
        x.cut(0, 0);
        due("cutting is one", x.count(3), 3);
        for (int d = 3; d < 39; d++) {
            x.grow(0);
        }
        due("39", x.count(3), 39);
        due("the 40th", x.grow(0), 20);
        due("40", x.count(3), 40);
        due("no 41st", x.grow(0), FULL);
        due("from number 1 on", x.undo(1), 39);
        headIs("number 0 stays", x, 0, 1, 0, 0, 0, 3);
    }

    @Holds(in = "Section 2", says = "A PLAN gives each HEAD one POST at most, each POST one HEAD at most")
    static void oneAtMost() {
        ThumbReader more = office("h55550 t00 p00001 p00001 p00001");
        due("one POST to a HEAD", more.plan(0, 0), 1);
        fraction("three and none", more, more.plans(0), 4, 1);
        ThumbReader fewer = office("h55550 h55550 h55550 t00 p00009");
        due("one HEAD to a POST", fewer.plan(0, 0), 9);
        fraction("three and none, too", fewer, fewer.plans(0), 4, 1);
    }

    @Holds(in = "Section 2", says = "so that each SUITS its POST (SURELY by a told THUMB).")
    static void surelyByATold() {
        ThumbReader x = office("h33330 t10 t00 p30009");
        due("BY LUCK is none", x.plan(0, 0), 0);
        rowIs("BY LUCK is none", x, 0, NONE);
        due("SURELY by the told one", x.plan(1, 0), 9);
        rowIs("SURELY by the told one", x, 0, 0);
    }

    @Holds(in = "Section 2", says = "It is told by the POST of each HEAD (NONE: none).")
    static void postOfEachHead() {
        ThumbReader x = office("h00000h10000h00000h20000h00000 t00 p20003 p10002");
        due("PAY", x.plan(0, 4), 5);
        rowIs("five HEADS", x, 4, NONE, 1, NONE, 0, NONE);
    }

    @Holds(in = "Section 2", says = "PLANS go by these, by HEADS, NONE behind all POSTS.")
    static void plansInTheirOrder() {
        ThumbReader x = office("h55550 h55550 h55550 t00 p00002 p00002");
        due("PAY", x.plan(0, 0), 4);
        rowIs("POST 0 first, NONE last", x, 0, 0, 1, NONE);
        ThumbReader y = office("h55550 h50000 h55550 t00 p10002 p11112");
        due("PAY", y.plan(0, 0), 4);
        rowIs("HEAD 0 goes first: POST 0, though HEAD 1 is none then", y, 0, 0, NONE, 1);
        ThumbReader z = office("h50000 h55550 t00 p60009 p11112 p10002 p00002");
        due("PAY", z.plan(0, 0), 4);
        rowIs("HEAD 0: the first that is given without loss", z, 0, 2, 1);
    }

    @Holds(in = "Section 2", says = "Its PAY is that of POSTS given, together.")
    static void payTogether() {
        ThumbReader x = office("h55550h55550h55550h55550h00000 t00 p10009p10009p10009p10009");
        due("four by 9", x.plan(0, 0), 36);
        due("nothing given", office("h00000 t00 p10009").plan(0, 0), 0);
        due("no POSTS", withoutPosts().plan(0, 0), 0);
    }

    private static ThumbReader reading(String office, int... numbers) {
        ThumbReader x = office(office);
        fill(x, 0, numbers);
        return x;
    }

    @Holds(in = "Section 3", says = "A READING is a ROW of four numbers (0 .. 9), by PLACES.")
    static void fourNumbers() {
        due("0 is a number", reading("h00000 t00", 0, 0, 0, 0).fits(0, 0, 0), 1);
        due("9 is a number", reading("h00000 t00", 9, 9, 9, 9).fits(0, 0, 0), 0);
        for (int place = 0; place < 4; place++) {
            for (int number : new int[] {-1, 10, MIN, MAX}) {
                int[] numbers = new int[4];
                numbers[place] = number;
                finding(() -> reading("h00000 t00", numbers), number + " is none", x -> x.fits(0, 0, 0), UNLIKE);
            }
        }
        for (int size : new int[] {0, 1, 2, 3, 5, 40}) {
            finding(() -> reading("h00000 t00", new int[size]), size + " numbers", x -> x.fits(0, 0, 0), SIZE);
        }
        due("by PLACES", reading("h12340 t00", 1, 2, 3, 4).fits(0, 0, 0), 1);
        due("not the other way", reading("h12340 t00", 4, 3, 2, 1).fits(0, 0, 0), 0);
    }

    @Holds(in = "Section 3", says = "It FITS a HEAD and a THUMB, if each is from the LEAST to the MOST.")
    static void fromTheLeastToTheMost() {
        due("the LEASTS", reading("h33330 t10", 2, 2, 2, 2).fits(0, 0, 0), 1);
        due("the MOSTS", reading("h33330 t10", 4, 4, 4, 4).fits(0, 0, 0), 1);
        for (int place = 0; place < 4; place++) {
            int[] numbers = {3, 3, 3, 3};
            numbers[place] = 1;
            due("below the LEAST at " + place, reading("h33330 t10", numbers).fits(0, 0, 0), 0);
            numbers[place] = 5;
            due("above the MOST at " + place, reading("h33330 t10", numbers).fits(0, 0, 0), 0);
        }
        due("up to 9", reading("h55550 c20", 9, 8, 8, 8).fits(0, 0, 0), 1);
    }

    @Holds(in = "Section 3", says = "LOTS: a number comes from the one ahead by 48271 times it modulo 2147483647")
    static void lotsGoOn() {
        // From 1: 48271, 182605794, 1291394886, 1914720637, 2078669041, 407355683, 1105902161, 854716505, 564586691,
        // 1596680831. HEADS are by the 1st (odd) and the 6th (odd) number; modulo 3 the others are 0, 0, 1, 1 and
        // 2, 2, 2, 2. A HEAD 1 READ as 0, 0, 1, 1 could be HEAD 0 as well, READ as 2, 2, 2, 2 it could not.
        ThumbReader x = office("h00000 h11110 t10");
        due("the first one", x.lots(0, 1, 1), 0);
        due("and the second one", x.lots(0, 2, 1), 1);
    }

    @Holds(in = "Section 3", says = "the first from a seed (1 .. 2147483646).")
    static void seeds() {
        bounds("lots(0, 1, seed)", 1, MAX - 1, (x, seed) -> x.lots(0, 1, seed));
        // From 2147483646, which is -1, come the numbers 2147483647 less those that come from 1.
        ThumbReader x = office("h00000 h11110 t10");
        due("of the highest seed", x.lots(0, 5, MAX - 1), lotsAlone(5, MAX - 1));
        due("of the lowest seed", x.lots(0, 5, 1), lotsAlone(5, 1));
        due("of a seed between", x.lots(0, 5, 1 << 30), lotsAlone(5, 1 << 30));
    }

    /** Of HEADS 0000 and 1111 with ERROR 1 the second one is alone if a 2 is READ, the first one never. */
    private static int lotsAlone(int n, int seed) {
        long lot = seed;
        int alone = 0;
        for (int i = 0; i < n; i++) {
            lot = next(lot);
            boolean second = lot % 2 == 1;
            boolean two = false;
            for (int place = 0; place < 4; place++) {
                lot = next(lot);
                two |= lot % 3 == 2;
            }
            alone += second && two ? 1 : 0;
        }
        return alone;
    }

    private static long next(long lot) {
        return Math.floorMod(Math.multiplyExact(48271L, lot), 2147483647L);
    }
}
