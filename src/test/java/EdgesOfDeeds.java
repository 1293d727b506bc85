/** Promises 17 to 22: pads, growth, hair, undone, kept, gone on from. */
final class EdgesOfDeeds extends Edge {
    /** 39 DEEDS on HEAD 0, which has BUMPS 5 and HAIR 0. */
    private static ThumbReader allButFull() {
        ThumbReader x = full();
        due("undo(39)", x.undo(39), 1);
        return x;
    }

    @Holds(in = "Promise 17", says = "A BUMP is PADDED: what it is then.")
    static void padUpTo5() {
        for (int place = 0; place < 4; place++) {
            ThumbReader x = office("h00000");
            for (int bump = 1; bump <= 5; bump++) {
                due("pad(0, " + place + ")", x.pad(0, place), bump);
            }
            told("no other PLACE", x, x.head(0, 5), 5);
            due("DEEDS", x.count(3), 5);
        }
    }

    @Holds(in = "Promise 17", says = "BAD")
    static void padBad() {
        headNumber("pad(h, 1)", (x, h) -> x.pad(h, 1));
        placeNumber("pad(2, place)", (x, place) -> x.pad(2, place));
    }

    @Holds(in = "Promise 17", says = "STATE: it is 5")
    static void padAt5() {
        state(Edge::whole, "5 from the first", x -> x.pad(0, 2));
        state(() -> padded("h44440"), "PADDED to 5", x -> x.pad(0, 0));
        state(() -> grown("h44440"), "GROWN to 5", x -> x.pad(0, 3));
        due("at 4 it is not so", office("h44440").pad(0, 0), 5);
        due("another PLACE is not 5", padded("h44440").pad(0, 1), 5);
    }

    private static ThumbReader padded(String head) {
        ThumbReader x = office(head);
        x.pad(0, 0);
        return x;
    }

    private static ThumbReader grown(String head) {
        ThumbReader x = office(head);
        x.grow(0);
        return x;
    }

    @Holds(in = "Promise 17", says = "FULL: 40 DEEDS.")
    static void padFull() {
        ThumbReader x = allButFull();
        due("the 40th", x.pad(1, 0), 1);
        due("no 41st", x.pad(1, 0), FULL);
        full(Edge::full, "pad(1, 0)", y -> y.pad(1, 0));
        full(Edge::full, "pad(1, 3)", y -> y.pad(1, 3));
    }

    @Holds(in = "Promise 17", says = "(FULL last.)")
    static void padFullLast() {
        state(Edge::full, "STATE ahead of FULL", x -> x.pad(0, 0));
        bad(Edge::full, "BAD ahead of FULL", x -> x.pad(0, 4));
        bad(Edge::full, "BAD ahead of FULL", x -> x.pad(2, 0));
    }

    @Holds(in = "Promise 18", says = "A HEAD GROWS: all its BUMPS together then.")
    static void growTogether() {
        ThumbReader x = office("h01453 h00000");
        due("1 2 5 5", x.grow(0), 13);
        due("2 3 5 5", x.grow(0), 15);
        due("3 4 5 5", x.grow(0), 17);
        due("4 5 5 5", x.grow(0), 19);
        due("5 5 5 5", x.grow(0), 20);
        due("no more, but a DEED", x.grow(0), 20);
        due("DEEDS", x.count(3), 6);
        headIs("the HAIR stays", x, 0, 5, 5, 5, 5, 3, 20);
        headIs("the other HEAD stays", x, 1, 0, 0, 0, 0, 0, 0);
    }

    @Holds(in = "Promise 18", says = "BAD")
    static void growBad() {
        headNumber("grow(h)", ThumbReader::grow);
    }

    @Holds(in = "Promise 18", says = "FULL.")
    static void growFull() {
        ThumbReader x = allButFull();
        due("the 40th", x.grow(1), 4);
        due("no 41st", x.grow(1), FULL);
        full(Edge::full, "one that could GROW", y -> y.grow(1));
        full(Edge::full, "one of all 5", y -> y.grow(0));
        bad(Edge::full, "BAD ahead of FULL", y -> y.grow(2));
    }

    @Holds(in = "Promise 19", says = "The HAIR of a HEAD is CUT to a length (0 .. 2): what it was.")
    static void cutFromEachLength() {
        for (int was = 0; was <= 3; was++) {
            for (int v = 0; v <= 2; v++) {
                ThumbReader x = office("h1234" + was);
                due("cut from " + was + " to " + v, x.cut(0, v), was > v ? was : STATE);
                headIs("cut from " + was + " to " + v, x, 0, 1, 2, 3, 4, Math.min(was, v), 10);
                due("DEEDS", x.count(3), was > v ? 1 : 0);
            }
        }
        ThumbReader x = office("h12343");
        due("3 to 2", x.cut(0, 2), 3);
        due("2 to 1", x.cut(0, 1), 2);
        due("1 to 0", x.cut(0, 0), 1);
        due("DEEDS", x.count(3), 3);
    }

    @Holds(in = "Promise 19", says = "BAD")
    static void cutBad() {
        headNumber("cut(h, 0)", (x, h) -> x.cut(h, 0));
        bounds("cut(4, v)", 0, 2, (x, v) -> x.cut(4, v));
        bad(() -> office("h00003"), "HAIR 3 to 3: BAD ahead of STATE", x -> x.cut(0, 3));
    }

    @Holds(in = "Promise 19", says = "STATE: it is no longer than that")
    static void cutState() {
        state(() -> office("h00000"), "0 to 0", x -> x.cut(0, 0));
        state(() -> office("h00001"), "1 to 1", x -> x.cut(0, 1));
        state(() -> office("h00001"), "1 to 2", x -> x.cut(0, 2));
        state(() -> office("h00002"), "2 to 2", x -> x.cut(0, 2));
        state(() -> cutOnce(), "CUT to 1, then to 1", x -> x.cut(0, 1));
    }

    private static ThumbReader cutOnce() {
        ThumbReader x = office("h00003");
        x.cut(0, 1);
        return x;
    }

    @Holds(in = "Promise 19", says = "FULL.")
    static void cutFull() {
        ThumbReader x = allButFull();
        due("the 40th", x.cut(1, 2), 3);
        due("no 41st", x.cut(1, 0), FULL);
        full(Edge::full, "cut(1, 2)", y -> y.cut(1, 2));
    }

    @Holds(in = "Promise 19", says = "(FULL last.)")
    static void cutFullLast() {
        state(Edge::full, "STATE ahead of FULL", x -> x.cut(0, 0));
        state(Edge::full, "STATE ahead of FULL", x -> x.cut(0, 2));
        bad(Edge::full, "BAD ahead of FULL", x -> x.cut(1, 3));
        bad(Edge::full, "BAD ahead of FULL", x -> x.cut(2, 0));
    }

    /** DEEDS 0 to 4: a PAD, a GROWTH, a CUT, a PAD of another HEAD, a GROWTH. */
    private static ThumbReader fiveDeeds() {
        ThumbReader x = office("h14353 h00001 t00");
        x.pad(0, 0);
        x.grow(0);
        x.cut(0, 1);
        x.pad(1, 2);
        x.grow(0);
        x.error(0, 2);
        return x;
    }

    @Holds(in = "Promise 20", says = "DEEDS from number n on are undone (ERRORS stay): how many.")
    static void undoFromEachNumber() {
        int[][] heads = {{1, 4, 3, 5, 3}, {2, 4, 3, 5, 3}, {3, 5, 4, 5, 3}, {3, 5, 4, 5, 1}, {3, 5, 4, 5, 1}, {4, 5, 5, 5, 1}};
        for (int n = 0; n <= 5; n++) {
            ThumbReader x = fiveDeeds();
            due("undo(" + n + ")", x.undo(n), 5 - n);
            due("DEEDS", x.count(3), n);
            headIs("HEAD 0 from " + n, x, 0, heads[n]);
            headIs("HEAD 1 from " + n, x, 1, 0, 0, n > 3 ? 1 : 0, 0, 1);
        }
    }

    @Holds(in = "Promise 20", says = "DEEDS from number n on are undone (ERRORS stay): how many.")
    static void undoAllOf40() {
        ThumbReader x = office("h00003");
        for (int d = 0; d < 40; d++) {
            x.grow(0);
        }
        due("none of 40", x.undo(40), 0);
        due("the last one", x.undo(39), 1);
        due("all but four", x.undo(4), 35);
        headIs("four", x, 0, 4, 4, 4, 4, 3);
        due("all", x.undo(0), 4);
        headIs("none", x, 0, 0, 0, 0, 0, 3);
        due("none is left", x.undo(0), 0);
        due("it goes on", x.pad(0, 1), 1);
    }

    @Holds(in = "Promise 20", says = "DEEDS from number n on are undone (ERRORS stay): how many.")
    static void undoOfNone() {
        answers(ThumbReader::new, "without HEADS", x -> x.undo(0), 0);
        answers(Edge::small, "without DEEDS", x -> x.undo(0), 0);
        answers(Edge::whole, "just behind the last one", x -> x.undo(3), 0);
    }

    @Holds(in = "Promise 20", says = "(ERRORS stay)")
    static void errorsStay() {
        ThumbReader x = fiveDeeds();
        x.undo(0);
        told("the ERROR", x, x.thumb(0, 1), 2);
    }

    @Holds(in = "Promise 20", says = "BAD.")
    static void undoBad() {
        bounds("undo(n)", 0, 3, ThumbReader::undo);
        bounds(EdgesOfDeeds::fiveDeeds, "undo(n) of five", 0, 5, ThumbReader::undo);
        bounds(Edge::full, "undo(n) of 40", 0, 40, ThumbReader::undo);
        bounds(ThumbReader::new, "undo(n) of none", 0, 0, ThumbReader::undo);
    }

    @Holds(in = "Promise 21", says = "The OFFICE (HEADS, DEEDS, ERRORS) is kept in a place (0 .. 2): how many DEEDS.")
    static void keepInEachPlace() {
        for (int k = 0; k < 3; k++) {
            ThumbReader x = fiveDeeds();
            due("keep(" + k + ")", x.keep(k), 5);
            due("one is kept", x.count(8), 1);
            x.undo(0);
            x.error(0, 0);
            due("none kept over it", x.keep((k + 1) % 3), 0);
            due("two are kept", x.count(8), 2);
            due("on(" + k + ")", x.on(k), 5);
            headIs("HEADS", x, 0, 4, 5, 5, 5, 1);
            told("ERRORS", x, x.thumb(0, 1), 2);
            due("DEEDS", x.undo(2), 3);
            headIs("DEEDS", x, 0, 3, 5, 4, 5, 3);
        }
    }

    @Holds(in = "Promise 21", says = "The OFFICE (HEADS, DEEDS, ERRORS) is kept in a place (0 .. 2): how many DEEDS.")
    static void keepNoneAnd40() {
        due("no DEEDS", small().keep(0), 0);
        due("40 DEEDS", full().keep(2), 40);
        due("the OFFICE stays", fiveDeeds().keep(1), 5);
    }

    @Holds(in = "Promise 21", says = "The OFFICE (HEADS, DEEDS, ERRORS) is kept in a place (0 .. 2): how many DEEDS.")
    static void keepOverAnother() {
        ThumbReader x = whole();
        due("over the one in 1", x.keep(1), 3);
        due("still one", x.count(8), 1);
        x.undo(0);
        due("the later one", x.on(1), 3);
        told("its ERROR", x, x.thumb(0, 1), 2);
    }

    @Holds(in = "Promise 21", says = "BAD")
    static void keepBad() {
        bounds("keep(k)", 0, 2, ThumbReader::keep);
    }

    @Holds(in = "Promise 21", says = "STATE: no HEADS.")
    static void keepWithoutHeads() {
        for (int k = 0; k < 3; k++) {
            int which = k;
            state(ThumbReader::new, "keep(" + k + ")", x -> x.keep(which));
        }
        bad(ThumbReader::new, "BAD ahead of STATE", x -> x.keep(3));
    }

    @Holds(in = "Promise 22", says = "The OFFICE is as it was kept: how many DEEDS.")
    static void onAsItWasKept() {
        ThumbReader x = whole();
        due("two DEEDS", x.on(1), 2);
        headIs("HEAD 0", x, 0, 2, 3, 5, 2, 0);
        headIs("HEAD 1", x, 1, 2, 5, 1, 4, 1);
        headIs("HEAD 2", x, 2, 0, 0, 5, 3, 0);
        told("the ERROR", x, x.thumb(0, 1), 1);
        due("it stays kept", x.count(8), 1);
        x.undo(0);
        due("on(1) again", x.on(1), 2);
        headIs("HEAD 1 again", x, 1, 2, 5, 1, 4, 1);
    }

    @Holds(in = "Promise 22", says = "The OFFICE is as it was kept: how many DEEDS.")
    static void onWithMoreDeedsThanNow() {
        ThumbReader x = full();
        x.keep(0);
        x.undo(0);
        x.cut(1, 0);
        x.keep(2);
        due("40 DEEDS", x.on(0), 40);
        due("no 41st", x.grow(1), FULL);
        headIs("the HAIR is uncut", x, 1, 0, 0, 0, 0, 3);
        due("one DEED", x.on(2), 1);
        headIs("the HAIR is cut", x, 1, 0, 0, 0, 0, 0);
        due("39 are free", x.grow(1), 4);
    }

    @Holds(in = "Promise 22", says = "BAD")
    static void onBad() {
        bounds("on(k)", 0, 2, ThumbReader::on);
        bad(ThumbReader::new, "BAD ahead of NOTHING", x -> x.on(3));
    }

    @Holds(in = "Promise 22", says = "NOTHING.")
    static void onNothing() {
        finding(Edge::whole, "on(0)", x -> x.on(0), NOTHING);
        finding(Edge::whole, "on(2)", x -> x.on(2), NOTHING);
        finding(ThumbReader::new, "on(1)", x -> x.on(1), NOTHING);
    }
}
