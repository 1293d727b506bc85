/** Promises 36 to 39: the best plan, how many, the safest, what a pad gains. */
final class EdgesOfPlans extends Edge {
    private static void plan(String office, int pay, int... posts) {
        ThumbReader x = office(office);
        due("plan of " + office, x.plan(0, 5), pay);
        rowIs("plan of " + office, x, 5, posts);
    }

    @Holds(in = "Promise 36", says = "The PLAN by a THUMB that PAYS most (of alike ones the first) comes to a ROW (anew, one for each HEAD): the PAY.")
    static void paysMost() {
        plan("h33330 t00 p33331", 1, 0);
        plan("h33330 t00 p33341", 0, NONE);
        plan("h33330 t00 p33331 p33339", 9, 1);
        plan("h33330 t00 p33339 p33331", 9, 0);
        // The better POST goes to the HEAD that suits no other one.
        plan("h33330 h30000 t00 p30005 p33334", 9, 1, 0);
        plan("h33330 h30000 t00 p30007 p33331 p30004", 11, 0, 2);
        plan("h50000h05000h00500h00050h55550 t00 p50001p05002p00503p00054", 10, 0, 1, 2, 3, NONE);
    }

    @Holds(in = "Promise 36", says = "(of alike ones the first)")
    static void firstOfAlikeOnes() {
        plan("h33330 h33330 t00 p33335", 5, 0, NONE);
        plan("h33330 h33330 t00 p33335 p33335", 10, 0, 1);
        plan("h33330 h33330 t00 p33335 p33335 p33335 p33335", 10, 0, 1);
        plan("h33330 h33330 h33330 t00 p33335 p33335", 10, 0, 1, NONE);
        plan("h33330 h33330 t00 p33331 p33335 p33335", 10, 1, 2);
        plan("h00000 h33330 h33330 t00 p33335", 5, NONE, 0, NONE);
        plan("h30000 h33330 t00 p33335 p30005", 10, 1, 0);
    }

    @Holds(in = "Promise 36", says = "(anew, one for each HEAD)")
    static void planToARow() {
        for (int r = 0; r < 6; r++) {
            ThumbReader x = whole();
            int rows = x.count(6);
            // By the CLERK of ERROR 1: each HEAD READS as it is, and 1 more at PLACE 3.
            // HEADS 2352, 2514, 1154, 4441, 5000 (under HAIR 4000) are READ 2353, 2515, 1155, 4442, 4001.
            // POSTS 2310 (5), 0042 (9), 4421 (3), 6666 (1): HEADS 0, 1, 3; HEAD 0, 2, 3; HEAD 3; nobody.
            due("plan(3, " + r + ")", x.plan(3, r), 17);
            rowIs("ROW " + r, x, r, 0, NONE, 1, 2, NONE);
            due("ROWS", x.count(6), rows + (r == 5 ? 1 : 0));
        }
    }

    @Holds(in = "Promise 36", says = "BAD")
    static void planBad() {
        thumbNumber("plan(t, 0)", (x, t) -> x.plan(t, 0));
        rowNumber("plan(0, r)", (x, r) -> x.plan(0, r));
    }

    @Holds(in = "Promise 36", says = "STATE: no HEADS.")
    static void planWithoutHeads() {
        // Without HEADS there is no THUMB either: BAD comes first.
        bad(ThumbReader::new, "plan(0, 0)", x -> x.plan(0, 0));
        bad(ThumbReader::new, "plan(0, 6)", x -> x.plan(0, 6));
    }

    private static void plans(String office, int want) {
        ThumbReader x = office(office);
        fraction("plans of " + office, x, x.plans(0), want, 1);
    }

    @Holds(in = "Promise 37", says = "How many PLANS there are by a THUMB, told by upper() (lower() is 1): 1.")
    static void howManyPlans() {
        plans("h33330 t00", 1);
        plans("h33330 t00 p44441", 1);
        plans("h33330 t00 p33331", 2);
        plans("h33330 t00 p33331 p33331 p33331 p33331", 5);
        plans("h33330h33330h33330h33330h33330 t00 p33331", 6);
        plans("h33330 h33330 t00 p33331 p33331", 7);
        plans("h33330 h00000 t00 p33331 p00001", 5);
        // Of five HEADS and four POSTS: 1 + 20 + 120 + 240 + 120.
        plans("h33330h33330h33330h33330h33330 t00 p33331p33331p33331p33331", 501);
        plans("h33330 t10 p33331", 1);
    }

    @Holds(in = "Promise 37", says = "(lower() is 1)")
    static void lowerIs1() {
        ThumbReader x = office("h33330 t10 p33331");
        fraction("ahead", x, x.luck(0, 0, 0), 16, 81);
        fraction("behind", x, x.plans(0), 1, 1);
    }

    @Holds(in = "Promise 37", says = "BAD.")
    static void plansBad() {
        thumbNumber("plans(t)", ThumbReader::plans);
    }

    private static void safest(String office, int pay, int... posts) {
        ThumbReader x = office(office);
        due("safest of " + office, x.safest(5), pay);
        rowIs("safest of " + office, x, 5, posts);
    }

    @Holds(in = "Promise 38", says = "The PLAN that is one by all THUMBS and PAYS most (the first) comes to a ROW (anew): the PAY.")
    static void byAllThumbs() {
        safest("h33330 t00 p33335", 5, 0);
        safest("h33330 t00 v00 p33335 p22221", 1, 1);
        safest("h33330 v00 t00 p33335 p22221", 1, 1);
        safest("h33330 t00 t00 t00 v00 p33335", 0, NONE);
        safest("h33330 w00 w03 p43335 p33341", 0, NONE);
        safest("h33330 h44440 t00 v00 p33335 p22221", 6, 1, 0);
        safest("h33330 p66669", 9, 0);
        safest("h33330 t00", 0, NONE);
    }

    @Holds(in = "Promise 38", says = "(the first)")
    static void firstOfSafestOnes() {
        safest("h33330 h33330 t00 l00 p33335", 5, 0, NONE);
        safest("h33330 h33330 t00 l00 p33335 p33335", 10, 0, 1);
        safest("h22220 h33330 h33330 t00 l00 p33335", 5, NONE, 0, NONE);
        safest("h33330h33330h33330h33330h33330 t00t00t00t00 p33335p33335p33335p33335", 20, 0, 1, 2, 3, NONE);
    }

    @Holds(in = "Promise 38", says = "comes to a ROW (anew)")
    static void safestToARow() {
        for (int r = 0; r < 6; r++) {
            ThumbReader x = whole();
            int rows = x.count(6);
            // By the THUMB of ERROR 2 alone 0130, 0302, 0032, 2220, 2000 are READ at LEAST: no HEAD SUITS a POST.
            due("safest(" + r + ")", x.safest(r), 0);
            rowIs("ROW " + r, x, r, NONE, NONE, NONE, NONE, NONE);
            due("ROWS", x.count(6), rows + (r == 5 ? 1 : 0));
        }
    }

    @Holds(in = "Promise 38", says = "BAD")
    static void safestBad() {
        rowNumber("safest(r)", ThumbReader::safest);
    }

    @Holds(in = "Promise 38", says = "STATE: no HEADS.")
    static void safestWithoutHeads() {
        for (int r = 0; r < 6; r++) {
            int which = r;
            state(ThumbReader::new, "safest(" + r + ")", x -> x.safest(which));
        }
        bad(ThumbReader::new, "BAD ahead of STATE", x -> x.safest(6));
    }

    private static void gain(String office, int more, int place) {
        ThumbReader x = office(office);
        long ahead = x.digest();
        both("gain of " + office, x, x.gain(0, 0), more, place);
        due("nothing is done", x.digest(), ahead);
    }

    @Holds(in = "Promise 39", says = "How much more the best PLAN by a THUMB PAYS, if a HEAD is PADDED once, at the PLACE where this is most (the first); that PLACE by asked().")
    static void gainAtEachPlace() {
        gain("h33330 t00 p43332", 2, 0);
        gain("h33330 t00 p34332", 2, 1);
        gain("h33330 t00 p33432", 2, 2);
        gain("h33330 t00 p33342", 2, 3);
        gain("h44440 t00 p44459", 9, 3);
        gain("h33330 t00 p33331 p33432", 1, 2);
        gain("h33330 t00 p43332 p34335", 5, 1);
        gain("h33330 h33330 t00 p33335 p43334", 4, 0);
    }

    @Holds(in = "Promise 39", says = "(the first)")
    static void gainAtTheFirst() {
        gain("h33330 t00 p34335 p33435 p33345", 5, 1);
        gain("h33330 t00 p43335 p33345", 5, 0);
        gain("h33330 t00 p43334 p34335 p33435", 5, 1);
    }

    @Holds(in = "Promise 39", says = "NONE: nowhere more.")
    static void gainNowhere() {
        none(() -> asked("h33330 t00 p33335"), "it has it already", x -> x.gain(0, 0));
        none(() -> asked("h33330 t00 p53335"), "one PAD is not enough", x -> x.gain(0, 0));
        none(() -> asked("h33330 t00 p44335"), "nor one at each of two", x -> x.gain(0, 0));
        none(() -> asked("h55550 t00 p66669"), "5 is not PADDED", x -> x.gain(0, 0));
        none(() -> asked("h53330 t00 p63339"), "5 is not PADDED to 6", x -> x.gain(0, 0));
        none(() -> asked("h33330 t00 p33335 p43334"), "the other POST PAYS less", x -> x.gain(0, 0));
        none(() -> asked("h33330 t00 p33335 p43335"), "the other POST PAYS as much", x -> x.gain(0, 0));
        none(() -> asked("h33330 t00"), "no POSTS", x -> x.gain(0, 0));
        none(() -> asked("h33330 h44440 t00 p43335"), "another HEAD has it", x -> x.gain(0, 0));
        none(() -> asked("h00002 t00 p10005"), "under HAIR 1 is 0", x -> x.gain(0, 0));
    }

    private static ThumbReader asked(String office) {
        ThumbReader x = office(office);
        x.thumb(0, 2);
        x.head(0, 5);
        return x;
    }

    @Holds(in = "Promise 39", says = "BAD.")
    static void gainBad() {
        thumbNumber("gain(t, 0)", (x, t) -> x.gain(t, 0));
        headNumber("gain(0, h)", (x, h) -> x.gain(0, h));
    }
}
