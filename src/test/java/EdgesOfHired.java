/** Promises 30 to 35: who is hired, pads for a post, which thumb finds a pad. */
final class EdgesOfHired extends Edge {
    private static String post(int place, int need) {
        return "p0000".substring(0, 1 + place) + need + "0000".substring(place + 1) + "1";
    }

    @Holds(in = "Promise 30", says = "Whether a HEAD SUITS a POST by a THUMB: 2 SURELY, 1 BY LUCK, 0 not.")
    static void suitsAtEachPlace() {
        for (int place = 0; place < 4; place++) {
            // 2 .. 4 by ERROR 1.
            int[] want = {2, 2, 2, 1, 1, 0, 0};
            for (int need = 0; need <= 6; need++) {
                due("NEED " + need + " at " + place, office("h33330 t10" + post(place, need)).suits(0, 0, 0), want[need]);
            }
        }
    }

    @Holds(in = "Promise 30", says = "Whether a HEAD SUITS a POST by a THUMB: 2 SURELY, 1 BY LUCK, 0 not.")
    static void suitsOfOthers() {
        ThumbReader x = office("h00000 h33330 v00 t00 p66661 p33331");
        due("the second of each", x.suits(1, 1, 1), 2);
        due("the first THUMB", x.suits(0, 1, 1), 0);
        due("the first HEAD", x.suits(1, 0, 1), 0);
        due("the first POST", x.suits(1, 1, 0), 0);
        due("a NEED of 0 by 0", office("h00003 d20 p00009").suits(0, 0, 0), 2);
        due("a NEED of 6 by 6", office("h55551 l00 p66669").suits(0, 0, 0), 2);
        due("SURELY at three PLACES is BY LUCK", office("h33330 t10 p22231").suits(0, 0, 0), 1);
        due("BY LUCK at three PLACES is not", office("h33330 t10 p44451").suits(0, 0, 0), 0);
    }

    @Holds(in = "Promise 30", says = "BAD.")
    static void suitsBad() {
        thumbNumber("suits(t, 0, 0)", (x, t) -> x.suits(t, 0, 0));
        headNumber("suits(0, h, 0)", (x, h) -> x.suits(0, h, 0));
        postNumber("suits(0, 0, p)", (x, p) -> x.suits(0, 0, p));
    }

    private static void luck(String office, long upper, long lower) {
        ThumbReader x = office(office);
        fraction("luck of " + office, x, x.luck(0, 0, 0), upper, lower);
    }

    @Holds(in = "Promise 31", says = "ODDS that a THUMB READS a HEAD so that it is no less than each NEED: 1.")
    static void luckAtEachPlace() {
        for (int place = 0; place < 4; place++) {
            long[] upper = {1, 1, 1, 2, 1, 0, 0};
            long[] lower = {1, 1, 1, 3, 3, 1, 1};
            for (int need = 0; need <= 6; need++) {
                luck("h33330 t10" + post(place, need), upper[need], lower[need]);
            }
        }
    }

    @Holds(in = "Promise 31", says = "ODDS that a THUMB READS a HEAD so that it is no less than each NEED: 1.")
    static void luckTogether() {
        luck("h33330 t10 p22221", 1, 1);
        luck("h33330 t10 p33331", 16, 81);
        luck("h33330 t10 p44441", 1, 81);
        luck("h33330 t10 p44451", 0, 1);
        luck("h33330 t20 p55551", 1, 625);
        luck("h33330 t00 p33331", 1, 1);
        luck("h33330 t00 p33341", 0, 1);
        luck("h00000 t20 p22221", 1, 81);
        luck("h00000 t10 p11111", 1, 16);
        luck("h10000 t20 p30001", 1, 4);
        luck("h55550 c20 p66669", 108, 625);
    }

    @Holds(in = "Promise 31", says = "BAD.")
    static void luckBad() {
        thumbNumber("luck(t, 0, 0)", (x, t) -> x.luck(t, 0, 0));
        headNumber("luck(0, h, 0)", (x, h) -> x.luck(0, h, 0));
        postNumber("luck(0, 0, p)", (x, p) -> x.luck(0, 0, p));
    }

    private static void pads(String office, int want, int... places) {
        ThumbReader x = office(office);
        due("pads of " + office, x.pads(0, 0, 0, 5), want);
        rowIs("pads of " + office, x, 5, places);
        due("no DEEDS", x.count(3), 0);
    }

    @Holds(in = "Promise 32", says = "The fewest PADS by which a HEAD SUITS a POST SURELY by a THUMB (each PAD 1 at a PLACE)")
    static void fewestPads() {
        pads("h33330 t00 p33331", 0, 0, 0, 0, 0);
        pads("h33330 t00 p43331", 1, 1, 0, 0, 0);
        pads("h33330 t00 p33341", 1, 0, 0, 0, 1);
        pads("h00000 t00 p55551", 20, 5, 5, 5, 5);
        pads("h01230 t00 p55551", 14, 5, 4, 3, 2);
        pads("h00000 t20 p33331", 20, 5, 5, 5, 5);
        pads("h00000 v00 p40001", 5, 5, 0, 0, 0);
        pads("h00000 d00 p30001", 4, 4, 0, 0, 0);
        pads("h00000 l00 p61001", 5, 5, 0, 0, 0);
        pads("h00000 w01 p06001", 5, 0, 5, 0, 0);
        pads("h00000 c01 p06001", 4, 0, 4, 0, 0);
        pads("h55550 t20 p33331", 0, 0, 0, 0, 0);
    }

    @Holds(in = "Promise 32", says = "The fewest PADS by which a HEAD SUITS a POST SURELY by a THUMB (each PAD 1 at a PLACE)")
    static void fewestPadsUnderHair() {
        pads("h00002 t00 p10001", 2, 2, 0, 0, 0);
        pads("h00001 t00 p10001", 1, 1, 0, 0, 0);
        pads("h10002 t00 p10001", 1, 1, 0, 0, 0);
        pads("h00002 t00 p44441", 20, 5, 5, 5, 5);
        pads("h00003 t00 p00001", 0, 0, 0, 0, 0);
    }

    @Holds(in = "Promise 32", says = "how many at each PLACE comes to a ROW (anew).")
    static void padsComeToARow() {
        for (int r = 0; r < 6; r++) {
            ThumbReader x = whole();
            int rows = x.count(6);
            // HEAD 3 is 4 4 4 1; POST 2 NEEDS 4 4 2 1; a LIGHT one of ERROR 2 READS 3 3 3 0 at LEAST.
            due("pads(2, 3, 2, " + r + ")", x.pads(2, 3, 2, r), 3);
            rowIs("ROW " + r, x, r, 1, 1, 0, 1);
            due("ROWS", x.count(6), rows + (r == 5 ? 1 : 0));
        }
    }

    @Holds(in = "Promise 32", says = "NONE: by none.")
    static void padsByNone() {
        none(() -> padless("h33330 t00 p60001"), "6 by a BUMP 5", x -> x.pads(0, 0, 0, 0));
        none(() -> padless("h33330 t00 p00061"), "6 at the last PLACE", x -> x.pads(0, 0, 0, 0));
        none(() -> padless("h00000 v00 p50001"), "5 by a HEAVY one", x -> x.pads(0, 0, 0, 0));
        none(() -> padless("h00000 d00 p40001"), "4 by a DULL one", x -> x.pads(0, 0, 0, 0));
        none(() -> padless("h00000 t10 p50001"), "5 by one that errs", x -> x.pads(0, 0, 0, 0));
        none(() -> padless("h00002 t00 p50001"), "5 under HAIR", x -> x.pads(0, 0, 0, 0));
        none(() -> padless("h55550 l00 w00 p06001"), "a missing ROW stays missing", x -> x.pads(1, 0, 0, 5));
        due("6 by a LIGHT one", padless("h55550 l00 p60001").pads(0, 0, 0, 0), 0);
    }

    private static ThumbReader padless(String office) {
        ThumbReader x = office(office);
        fill(x, 0, 7, 8, 9);
        return x;
    }

    @Holds(in = "Promise 32", says = "BAD.")
    static void padsBad() {
        thumbNumber("pads(t, 0, 0, 0)", (x, t) -> x.pads(t, 0, 0, 0));
        headNumber("pads(0, h, 0, 0)", (x, h) -> x.pads(0, h, 0, 0));
        postNumber("pads(0, 0, p, 0)", (x, p) -> x.pads(0, 0, p, 0));
        rowNumber("pads(0, 0, 0, r)", (x, r) -> x.pads(0, 0, 0, r));
        bad(() -> office("h00000 t00 p60001"), "BAD ahead of NONE", x -> x.pads(0, 0, 0, 6));
    }

    @Holds(in = "Promise 33", says = "The fewest by which it does by all THUMBS.")
    static void fewestByAll() {
        answers(() -> office("h33330 t00 p33331"), "none", x -> x.all(0, 0), 0);
        answers(() -> office("h00000 t00 p55551"), "20", x -> x.all(0, 0), 20);
        answers(() -> office("h33330 t00 v00 l00 c00 p33331"), "the HEAVY one needs most", x -> x.all(0, 0), 4);
        answers(() -> office("h33330 l00 v00 t00 p33331"), "in whichever order", x -> x.all(0, 0), 4);
        answers(() -> office("h33330 w00 w03 p43341"), "each THUMB another PLACE", x -> x.all(0, 0), 2);
        answers(() -> office("h22220 w00 w03 t00 p43341"), "at each PLACE as many as one THUMB needs", x -> x.all(0, 0), 6);
        answers(() -> office("h33330 t00 l00 p44441 p33331"), "another POST", x -> x.all(0, 1), 0);
        answers(() -> office("h00000 h33330 t00 l00 p44441"), "another HEAD", x -> x.all(1, 0), 4);
    }

    @Holds(in = "Promise 33", says = "NONE: by none.")
    static void allByNone() {
        none(() -> office("h33330 t00 p60001"), "a NEED of 6", x -> x.all(0, 0));
        none(() -> office("h33330 l00 l00 l00 t00 p60001"), "by the last THUMB alone not", x -> x.all(0, 0));
        none(() -> office("h33330 t00 l00 p00061"), "by the first THUMB alone not", x -> x.all(0, 0));
        answers(() -> office("h33330 l00 w00 p60001"), "a NEED of 6 at the WISH", x -> x.all(0, 0), 2);
    }

    @Holds(in = "Promise 33", says = "BAD")
    static void allBad() {
        headNumber("all(h, 0)", (x, h) -> x.all(h, 0));
        postNumber("all(0, p)", (x, p) -> x.all(0, p));
    }

    @Holds(in = "Promise 33", says = "STATE: no THUMBS.")
    static void allWithoutThumbs() {
        state(Edge::withoutThumbs, "all(0, 0)", x -> x.all(0, 0));
        state(() -> office("h00000 p66661"), "STATE ahead of NONE", x -> x.all(0, 0));
        bad(Edge::withoutThumbs, "BAD ahead of STATE", x -> x.all(1, 0));
        bad(Edge::withoutThumbs, "BAD ahead of STATE", x -> x.all(0, 1));
        bad(ThumbReader::new, "BAD ahead of STATE", x -> x.all(0, 0));
    }

    @Holds(in = "Promise 34", says = "Which other THUMB finds it, if a BUMP of a HEAD is PADDED once more (what it READS then "
        + "there has nothing in common with what it READS now; the first).")
    static void findsTheFirst() {
        Made four = () -> office("h00330 t00 l00 w00 c00");
        answers(four, "not itself: the first other one", x -> x.finds(0, 0, 2), 1);
        answers(four, "of the second one it is the first", x -> x.finds(1, 0, 2), 0);
        answers(four, "of the last one it is the first", x -> x.finds(3, 0, 0), 0);
        answers(() -> office("h33330 t10 t20 t00 t00"), "the first that does not err", x -> x.finds(0, 0, 3), 2);
        answers(() -> office("h33330 t00 t10 t20 t00"), "the last one", x -> x.finds(0, 0, 3), 3);
    }

    @Holds(in = "Promise 34", says = "nothing in common")
    static void findsWhatIsNotInCommon() {
        answers(() -> office("h03000 t00 v00"), "a HEAVY one: 1 is 0 as 0 is", x -> x.finds(0, 0, 0), NONE);
        answers(() -> office("h10000 t00 v00"), "a HEAVY one: 2 is 1", x -> x.finds(0, 0, 0), 1);
        answers(() -> office("h30000 t00 d00"), "a DULL one: 4 is 3", x -> x.finds(0, 0, 0), 1);
        answers(() -> office("h40000 t00 d00"), "a DULL one: 5 is 3 as 4 is", x -> x.finds(0, 0, 0), NONE);
        answers(() -> office("h00002 t00 t00"), "under HAIR 1 is 0", x -> x.finds(0, 0, 0), NONE);
        answers(() -> office("h10002 t00 t00"), "under HAIR 2 is 1", x -> x.finds(0, 0, 0), 1);
        answers(() -> office("h30000 t00 t10"), "2 .. 4 and 3 .. 5", x -> x.finds(0, 0, 0), NONE);
        answers(() -> office("h40000 t00 t00"), "from 4 to 5", x -> x.finds(0, 0, 0), 1);
        answers(() -> office("h55550 h40000 t00 t00"), "of the second HEAD", x -> x.finds(0, 1, 0), 1);
    }

    @Holds(in = "Promise 34", says = "NONE: none.")
    static void findsNone() {
        none(() -> office("h33330 t00"), "no other THUMB", x -> x.finds(0, 0, 0));
        none(() -> office("h33330 t00 t10 t20 v10"), "all others err", x -> x.finds(0, 0, 0));
        none(() -> office("h33330 t10 t10 t10 t00"), "the told one alone would", x -> x.finds(3, 0, 0));
    }

    @Holds(in = "Promise 34", says = "BAD")
    static void findsBad() {
        thumbNumber("finds(t, 0, 0)", (x, t) -> x.finds(t, 0, 0));
        headNumber("finds(0, h, 0)", (x, h) -> x.finds(0, h, 0));
        placeNumber("finds(0, 2, place)", (x, place) -> x.finds(0, 2, place));
        bad(Edge::whole, "BAD ahead of STATE", x -> x.finds(4, 0, 2));
    }

    @Holds(in = "Promise 34", says = "STATE: the BUMP is 5.")
    static void findsAt5() {
        state(Edge::whole, "5 from the first", x -> x.finds(0, 0, 2));
        state(() -> office("h55550 t00"), "STATE ahead of NONE", x -> x.finds(0, 0, 3));
        state(() -> grownTo5(), "GROWN to 5", x -> x.finds(0, 0, 0));
        state(() -> office("h50003 t00 t00"), "5, though FELT as 4", x -> x.finds(0, 0, 0));
    }

    private static ThumbReader grownTo5() {
        ThumbReader x = office("h43330 t00 t00");
        x.grow(0);
        return x;
    }

    @Holds(in = "Promise 35", says = "POSTS (bits) that a HEAD SUITS SURELY by a THUMB; BY LUCK, too, by asked().")
    static void postsOfAHead() {
        ThumbReader x = office("h33330 h55550 t10 v00 p22221 p33331 p44441 p55551");
        both("2 .. 4", x, x.posts(0, 0), 1, 7);
        both("4 .. 6", x, x.posts(0, 1), 7, 15);
        both("2", x, x.posts(1, 0), 1, 1);
        both("4", x, x.posts(1, 1), 7, 7);
        ThumbReader none = office("h00000 t20 p30001 p03001 p00301 p00031");
        both("none", none, none.posts(0, 0), 0, 0);
        ThumbReader all = office("h00000 t20 p00001 p00001 p00001 p00001");
        both("all", all, all.posts(0, 0), 15, 15);
        ThumbReader luck = office("h00000 t20 p20001 p02001 p00201 p00021");
        both("all BY LUCK", luck, luck.posts(0, 0), 0, 15);
        ThumbReader no = withoutPosts();
        both("no POSTS", no, no.posts(0, 0), 0, 0);
    }

    @Holds(in = "Promise 35", says = "BAD.")
    static void postsBad() {
        thumbNumber("posts(t, 0)", (x, t) -> x.posts(t, 0));
        headNumber("posts(0, h)", (x, h) -> x.posts(0, h));
    }
}
