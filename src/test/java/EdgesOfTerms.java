/** "What it is", "The public face", "Terms": how many calls, what refused means and in which order, fractions, sets. */
final class EdgesOfTerms extends Edge {
    private static final String ORDER = "Refused is, the first of these that fits, in this order: ";
    private static final String REFUSED = "What is refused changes nothing but finding(), findings().";

    @Holds(in = "What it is", says = "An object is used for at most 512 calls after it has been made")
    static void findingsUpToTheLastCall() {
        ThumbReader x = new ThumbReader();
        for (int call = 1; call <= 511; call++) {
            due("call " + call, x.at(0, 0), FINDING);
        }
        due("call 512", x.findings(NOTHING), 511);
    }

    @Holds(in = "What it is", says = "An object is used for at most 512 calls after it has been made")
    static void deedsUpToTheLastCall() {
        ThumbReader x = office("h00000");
        int calls = "h00000".length() + 3;
        for (; calls + 42 < 512; calls += 42) {
            for (int d = 0; d < 40; d++) {
                due("grow(0)", x.grow(0), Math.min(20, 4 * d + 4));
            }
            due("count(3)", x.count(3), 40);
            due("undo(0)", x.undo(0), 40);
        }
        for (; calls < 511; calls++) {
            due("keep(2)", x.keep(2), 0);
        }
        due("call 512", x.pad(0, 3), 1);
    }

    @Holds(in = "The public face", says = "BAD = -1, FULL = -2, FINDING = -3, STATE = -4, SPENT = -6, NONE = -9;")
    static void constants() throws ReflectiveOperationException {
        String[] names = {"BAD", "FULL", "FINDING", "STATE", "SPENT", "NONE"};
        int[] numbers = {-1, -2, -3, -4, -6, -9};
        for (int i = 0; i < names.length; i++) {
            // As it stands in the class, not as the compiler laid it into this one.
            due(names[i], ThumbReader.class.getField(names[i]).getInt(null), numbers[i]);
        }
    }

    @Holds(in = "Terms", says = "BAD -1 (a number that is none, or not as told)")
    static void numberThatIsNone() {
        due("a ROW that is none", whole().at(6, 0), -1);
        due("a TEXT that is none", whole().fault(4), -1);
        due("a HEAD that is none", whole().grow(5), -1);
        due("a THUMB that is none", whole().look(4), -1);
        due("a POST that is none", whole().post(4, 0), -1);
        due("a PLACE that is none", whole().pad(2, 4), -1);
    }

    @Holds(in = "Terms", says = "BAD -1 (a number that is none, or not as told)")
    static void numberNotAsTold() {
        due("more ints than told", whole().row(0, 41), -1);
        due("an ERROR above the told ones", whole().error(0, 3), -1);
        due("a seed above the told ones", whole().lots(0, 1, MAX), -1);
    }

    @Holds(in = "Terms", says = ORDER + "BAD -1 (a number that is none, or not as told), FULL -2")
    static void badAheadOfFull() {
        due("FULL", full().grow(1), -2);
        bad(Edge::full, "grow(-1), 40 DEEDS", x -> x.grow(-1));
        bad(Edge::full, "grow(2), 40 DEEDS", x -> x.grow(2));
        bad(Edge::full, "pad(2, 0), 40 DEEDS", x -> x.pad(2, 0));
        bad(Edge::full, "pad(1, 4), 40 DEEDS", x -> x.pad(1, 4));
        bad(Edge::full, "cut(2, 0), 40 DEEDS", x -> x.cut(2, 0));
        bad(Edge::full, "cut(1, 3), 40 DEEDS", x -> x.cut(1, 3));
        bad(Edge::full, "cut(1, -1), 40 DEEDS", x -> x.cut(1, -1));
    }

    @Holds(in = "Terms", says = "STATE -4 (not now)")
    static void badAheadOfState() {
        due("STATE", new ThumbReader().keep(0), -4);
        bad(ThumbReader::new, "keep(3) without HEADS", x -> x.keep(3));
        bad(ThumbReader::new, "keep(-1) without HEADS", x -> x.keep(-1));
        bad(ThumbReader::new, "safest(6) without HEADS", x -> x.safest(6));
        bad(ThumbReader::new, "safest(-1) without HEADS", x -> x.safest(-1));
        bad(Edge::withoutThumbs, "all(1, 0) without THUMBS", x -> x.all(1, 0));
        bad(Edge::withoutThumbs, "all(0, 1) without THUMBS", x -> x.all(0, 1));
        bad(Edge::full, "cut(0, 3): the HAIR is no longer than that", x -> x.cut(0, 3));
        bad(Edge::full, "finds(1, 0, 0): the BUMP is 5", x -> x.finds(1, 0, 0));
    }

    @Holds(in = "Terms", says = "FINDING -3 (finding() tells which)")
    static void badAheadOfFinding() {
        bad("row(6, -1)", x -> x.row(6, -1));
        bad("lay(6, -1, 0)", x -> x.lay(6, -1, 0));
        bad("at(-1, 40)", x -> x.at(-1, 40));
        bad("copy(6, -1, 5, -1, -1)", x -> x.copy(6, -1, 5, -1, -1));
        bad("copy(5, -1, 6, -1, -1)", x -> x.copy(5, -1, 6, -1, -1));
        bad("text(4, -1)", x -> x.text(4, -1));
        bad("put(4, -1, 0)", x -> x.put(4, -1, 0));
        bad("mark(0, 0): a THUMB of no other KIND", x -> x.mark(0, 0));
        bad("mark(0, 6)", x -> x.mark(0, 6));
        bad("fits(4, 0, 5): the ROW is missing", x -> x.fits(4, 0, 5));
        bad("fits(0, 5, 5)", x -> x.fits(0, 5, 5));
        bad("whose(4, 5)", x -> x.whose(4, 5));
        bad("who(5, 5)", x -> x.who(5, 5));
        bad("odds(4, 0, 5)", x -> x.odds(4, 0, 5));
        bad("odds(0, 5, 5)", x -> x.odds(0, 5, 5));
        bad("learn(5, 3)", x -> x.learn(5, 3));
        bad("learn(5, -1)", x -> x.learn(5, -1));
    }

    @Holds(in = "Terms", says = "FINDING -3 (finding() tells which)")
    static void findingTellsWhich() {
        ThumbReader x = whole();
        due("FINDING", x.row(0, -1), -3);
        due("it tells SIZE", x.finding(), 5);
        due("FINDING again", x.at(0, 4), -3);
        due("it tells BEYOND", x.finding(), 2);
    }

    @Holds(in = "Terms", says = "SPENT -6 (more than told), FINDING -3 (finding() tells which), unless a call says so otherwise.")
    static void otherwise() {
        state(Edge::full, "pad(0, 0) of a BUMP 5, 40 DEEDS: STATE ahead of FULL", x -> x.pad(0, 0));
        state(Edge::full, "cut(0, 0) of HAIR 0, 40 DEEDS: STATE ahead of FULL", x -> x.cut(0, 0));
        finding(Edge::whole, "office(3): NOTHING ahead of STATE", x -> x.office(3), NOTHING);
        state(Edge::whole, "office(2): STATE behind NOTHING", x -> x.office(2));
    }

    @Holds(in = "Terms", says = "NONE -9.")
    static void noneIsNotRefused() {
        due("NONE", office("h00000").fault(0), -9);
        none(() -> office("h00000"), "NONE is no FINDING", x -> x.fault(0));
    }

    @Holds(in = "Terms", says = REFUSED)
    static void refusedAsBad() {
        bad("row(4, 41)", x -> x.row(4, 41));
        bad("text(0, 81)", x -> x.text(0, 81));
        bad("error(0, 3)", x -> x.error(0, 3));
        bad("pad(2, 4)", x -> x.pad(2, 4));
        bad("undo(4)", x -> x.undo(4));
        bad("keep(3)", x -> x.keep(3));
        bad("on(3)", x -> x.on(3));
        bad("pads to ROW 6", x -> x.pads(2, 0, 0, 6));
        bad("plan(0, 6)", x -> x.plan(0, 6));
        bad("plan(4, 0)", x -> x.plan(4, 0));
        bad("safest(6)", x -> x.safest(6));
    }

    @Holds(in = "Terms", says = REFUSED)
    static void refusedAsState() {
        state(Edge::whole, "office of a FAULT: HEADS, DEEDS, kept OFFICES stay", x -> x.office(2));
        state(Edge::whole, "office of an empty TEXT", x -> x.office(1));
        state(Edge::whole, "pad(0, 2) of a BUMP 5", x -> x.pad(0, 2));
        state(Edge::whole, "cut(0, 0)", x -> x.cut(0, 0));
        state(ThumbReader::new, "keep(0)", x -> x.keep(0));
    }

    @Holds(in = "Terms", says = REFUSED)
    static void refusedAsFull() {
        full(Edge::full, "grow(1)", x -> x.grow(1));
        full(Edge::full, "pad(1, 0)", x -> x.pad(1, 0));
        full(Edge::full, "cut(1, 0)", x -> x.cut(1, 0));
    }

    @Holds(in = "Terms", says = REFUSED)
    static void refusedAsFinding() {
        finding(Edge::whole, "row(4, -1)", x -> x.row(4, -1), SIZE);
        finding(Edge::whole, "lay(4, 40, 1)", x -> x.lay(4, 40, 1), BEYOND);
        finding(Edge::whole, "copy(4, 0, 0, 0, 5)", x -> x.copy(4, 0, 0, 0, 5), BEYOND);
        finding(Edge::whole, "copy(0, 0, 5, 0, 1)", x -> x.copy(0, 0, 5, 0, 1), NOTHING);
        finding(Edge::whole, "text(0, -1)", x -> x.text(0, -1), SIZE);
        finding(Edge::whole, "put(0, 80, 1)", x -> x.put(0, 80, 1), BEYOND);
        finding(Edge::whole, "office(3)", x -> x.office(3), NOTHING);
        finding(Edge::whole, "on(0)", x -> x.on(0), NOTHING);
        finding(Edge::whole, "odds by the second THUMB", x -> x.odds(1, 0, 0), NOUGHT);
        finding(Edge::whole, "tells(0)", x -> x.tells(0), SIZE);
        finding(Edge::whole, "whose(0, 1)", x -> x.whose(0, 1), SIZE);
    }

    @Holds(in = "Terms", says = "FINDINGS: 1 NOTHING (a ROW, a TEXT, a kept OFFICE that is missing)")
    static void nothing() {
        finding(Edge::whole, "a ROW", x -> x.at(5, 0), 1);
        finding(Edge::whole, "a TEXT", x -> x.fault(3), 1);
        finding(Edge::whole, "a kept OFFICE", x -> x.on(2), 1);
    }

    @Holds(in = "Terms", says = "2 BEYOND (a place of a ROW, a TEXT that there is not)")
    static void beyond() {
        finding(Edge::whole, "behind a ROW", x -> x.at(4, 40), 2);
        finding(Edge::whole, "ahead of a ROW", x -> x.at(4, -1), 2);
        finding(Edge::whole, "behind a TEXT", x -> x.put(2, 5, 0), 2);
        finding(Edge::whole, "ahead of a TEXT", x -> x.put(2, -1, 0), 2);
    }

    @Holds(in = "Terms", says = "3 UNLIKE (a THUMB of another KIND; a number that is none)")
    static void unlike() {
        finding(Edge::whole, "a THUMB of another KIND", x -> x.mark(1, 2), 3);
        finding(() -> rowOf(0, 1, 2, 10), "a number that is none", x -> x.fits(0, 0, 0), 3);
    }

    @Holds(in = "Terms", says = "4 NOUGHT (shared among none; none of these)")
    static void nought() {
        finding(Edge::whole, "shared among none", x -> x.mean(3), 4);
        finding(() -> rowOf(9, 9, 9, 9), "none of these", x -> x.odds(0, 0, 0), 4);
    }

    @Holds(in = "Terms", says = "5 SIZE (fewer than none; not as many as due)")
    static void size() {
        finding(Edge::whole, "fewer than none", x -> x.row(0, -1), 5);
        finding(Edge::whole, "not as many as due", x -> x.fits(0, 0, 2), 5);
    }

    private static ThumbReader rowOf(int... places) {
        ThumbReader x = whole();
        fill(x, 0, places);
        return x;
    }

    @Holds(in = "Terms", says = "Fractions are told by upper(), lower(), in lowest terms")
    static void lowestTerms() {
        // 0 .. 2 of a BUMP 0 by ERROR 2: two of three are no less than 1, one is no less than 2.
        ThumbReader x = office("h00000 t20 p11001 p12001");
        fraction("2 x 2 of 3 x 3", x, x.luck(0, 0, 0), 4, 9);
        fraction("2 x 1 of 3 x 3", x, x.luck(0, 0, 1), 2, 9);
        // 0 .. 1 by ERROR 1: 4 of 16 are 1 of 4.
        ThumbReader y = office("h00000 t10 p11001");
        fraction("4 of 16", y, y.luck(0, 0, 0), 1, 4);
        // 0 .. 3 of a BUMP 1 by ERROR 2: 2 of 4 twice, 3 of 4 twice.
        ThumbReader z = office("h11110 t20 p22111");
        fraction("36 of 256", z, z.luck(0, 0, 0), 9, 64);
        ThumbReader twins = office("h11110 h11110 t10");
        fill(twins, 0, 1, 1, 1, 1);
        fraction("81 of 162", twins, twins.odds(0, 1, 0), 1, 2);
    }

    @Holds(in = "Terms", says = "the lower number above 0 (0 by 1).")
    static void noughtByOne() {
        ThumbReader x = office("h00000 h33330 t20 p60001");
        fraction("never", x, x.luck(0, 0, 0), 0, 1);
        fill(x, 0, 3, 3, 3, 3);
        fraction("surely the other one", x, x.odds(0, 1, 0), 1, 1);
        fraction("not this one", x, x.odds(0, 0, 0), 0, 1);
    }

    @Holds(in = "Terms", says = "Sets (of HEADS, of THUMBS, of PLACES, of POSTS) are told by bits.")
    static void setsOfHeads() {
        ThumbReader x = office("h11110h22220h33330h44440h55550 t00");
        fill(x, 0, 5, 5, 5, 5);
        due("the last HEAD", x.whose(0, 0), 16);
        fill(x, 0, 1, 1, 1, 1);
        due("the first HEAD", x.whose(0, 0), 1);
        due("all HEADS", office("h11110h11110h11110h11110h11110 t00").alike(0, 2), 31);
    }

    @Holds(in = "Terms", says = "Sets (of HEADS, of THUMBS, of PLACES, of POSTS) are told by bits.")
    static void setsOfThumbs() {
        ThumbReader x = office("h22220 v00 l00 l00 t00");
        fill(x, 0, 2, 2, 2, 2);
        due("the last THUMB", x.who(0, 0), 8);
        fill(x, 0, 1, 1, 1, 1);
        due("the first THUMB", x.who(0, 0), 1);
        fill(x, 0, 3, 3, 3, 3);
        due("both LIGHT ones", x.who(0, 0), 6);
    }

    @Holds(in = "Terms", says = "Sets (of HEADS, of THUMBS, of PLACES, of POSTS) are told by bits.")
    static void setsOfPlaces() {
        ThumbReader x = office("h10010 h00000");
        fill(x, 0, 1, 0);
        due("the first PLACE and the last one", x.tells(0), 9);
    }

    @Holds(in = "Terms", says = "Sets (of HEADS, of THUMBS, of PLACES, of POSTS) are told by bits.")
    static void setsOfPosts() {
        ThumbReader x = office("h11110 t00 p11111 p20001 p02001 p00001");
        both("the first POST and the last one", x, x.posts(0, 0), 9, 9);
    }

    private static void bad(String what, Call call) {
        bad(Edge::whole, what, call);
    }
}
