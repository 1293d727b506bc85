/** Promises 10 to 16: faults, offices, heads, thumbs, posts, marks, errors. */
final class EdgesOfOffices extends Edge {
    private static ThumbReader text(String signs) {
        ThumbReader x = whole();
        write(x, 3, signs);
        return x;
    }

    @Holds(in = "Promise 10", says = "A FAULT of a TEXT")
    static void faultOfAText() {
        answers(Edge::whole, "an empty TEXT", x -> x.fault(1), 0);
        answers(Edge::whole, "an end that comes too early", x -> x.fault(2), 5);
        answers(() -> text(" ".repeat(80)), "80 blanks", x -> x.fault(3), 80);
        answers(() -> text(" ".repeat(79) + "h"), "its end", x -> x.fault(3), 80);
        answers(() -> text(" ".repeat(79) + "x"), "its last place", x -> x.fault(3), 79);
        answers(() -> text("x"), "its first place", x -> x.fault(3), 0);
    }

    @Holds(in = "Promise 10", says = "NONE: there is none.")
    static void noFault() {
        none(Edge::whole, "the OFFICE's own TEXT", x -> x.fault(0));
        none(() -> text("h55553"), "another OFFICE's TEXT: it does not take the place of this one", x -> x.fault(3));
        none(() -> text("h00000t00v10l20c03p00001p66669"), "another one", x -> x.fault(3));
    }

    @Holds(in = "Promise 10", says = "BAD")
    static void faultBad() {
        textNumber("fault(t)", ThumbReader::fault);
    }

    @Holds(in = "Promise 10", says = "NOTHING.")
    static void faultNothing() {
        finding(Edge::whole, "fault(3)", x -> x.fault(3), NOTHING);
    }

    @Holds(in = "Promise 11", says = "An OFFICE by a TEXT (anew: no DEEDS; kept OFFICES go): how many HEADS.")
    static void howManyHeads() {
        for (int heads = 1; heads <= 5; heads++) {
            ThumbReader x = text("h00000".repeat(heads));
            due("office(3)", x.office(3), heads);
            due("HEADS", x.count(0), heads);
            due("THUMBS", x.count(1), 0);
            due("POSTS", x.count(2), 0);
            due("no further HEAD", x.head(heads, 0), BAD);
        }
    }

    @Holds(in = "Promise 11", says = "(anew: no DEEDS; kept OFFICES go)")
    static void noDeeds() {
        ThumbReader x = whole();
        due("DEEDS ahead", x.count(3), 3);
        due("office(0) anew", x.office(0), 5);
        due("no DEEDS", x.count(3), 0);
        headIs("the BUMP was PADDED", x, 0, 1, 3, 5, 2, 0);
        headIs("the HAIR was CUT", x, 1, 2, 5, 1, 4, 3);
        headIs("the HEAD had GROWN", x, 2, 0, 0, 5, 3, 0);
        told("the ERROR was another", x, x.thumb(0, 1), 1);
        due("nothing to be undone", x.undo(0), 0);
        due("40 DEEDS are free again", fortyAnew().count(3), 40);
    }

    private static ThumbReader fortyAnew() {
        ThumbReader x = full();
        due("office(0) anew", x.office(0), 2);
        for (int d = 0; d < 40; d++) {
            due("grow(1)", x.grow(1), Math.min(20, 4 * d + 4));
        }
        return x;
    }

    @Holds(in = "Promise 11", says = "(anew: no DEEDS; kept OFFICES go)")
    static void keptOfficesGo() {
        for (int k = 0; k < 3; k++) {
            int which = k;
            finding(() -> keptThenAnew(), "on(" + k + ")", x -> x.on(which), NOTHING);
        }
        due("none is kept", keptThenAnew().count(8), 0);
    }

    private static ThumbReader keptThenAnew() {
        ThumbReader x = whole();
        x.keep(0);
        x.keep(2);
        due("kept ahead", x.count(8), 3);
        x.office(0);
        return x;
    }

    @Holds(in = "Promise 11", says = "(anew: no DEEDS; kept OFFICES go)")
    static void nothingOfTheOldOneIsLeft() {
        ThumbReader x = text("h12341");
        x.office(3);
        ThumbReader y = new ThumbReader();
        write(y, 3, "h12341");
        y.office(3);
        for (int what = 0; what <= 5; what++) {
            due("count(" + what + ")", x.count(what), y.count(what));
        }
        due("no THUMB", x.thumb(0, 0), BAD);
        due("no POST", x.post(0, 0), BAD);
        due("no HEAD but one", x.head(1, 0), BAD);
        due("ROWS stay", x.count(6), 5);
        due("TEXTS stay", x.count(7), 4);
    }

    /** As many as there may be, all used, and of the second OFFICE nothing but this. */
    private static ThumbReader smaller(String office) {
        ThumbReader x = office("h55550h55550h55550h55550h55550 l20l20c20d20 p00009p00009p00009p00009");
        x.plan(0, 0);
        x.safest(1);
        x.office(0);
        write(x, 1, office);
        due("office of " + office, x.office(1), 1);
        return x;
    }

    @Holds(in = "Promise 11", says = "An OFFICE by a TEXT (anew: no DEEDS; kept OFFICES go)")
    static void smallerThanTheOldOne() {
        due("no other HEAD is READ", smaller("h11110 l00").mark(0, 2), 2);
        due("no other HEAD is FELT", smaller("h00000 v00").mark(0, 1), 4);
        due("no other HEAD has its WISH", smaller("h00000 w00").mark(0, 3), 1);
        due("no other HEAD is above", smaller("h00000 c00").mark(0, 4), 5);
        due("no other HEAD is 3", smaller("h44440 d00").mark(0, 5), 4);
        due("no other HEAD's BUMPS", smaller("h11110 l00").count(4), 4);
        due("no other THUMB is WISHING", smaller("h11110 l00").count(5), 0);
        due("no other THUMB finds it", smaller("h11110 t00").finds(0, 0, 0), NONE);
        due("no other POST is had", smaller("h11110 t00 p11111").posts(0, 0), 1);
        due("no other HEAD is alike", smaller("h55550 t00").alike(0, 0), 1);
        due("no other HEAD to be told apart", smaller("h11110 t00").look(0), 0);
        ThumbReader x = smaller("h11110 t00 p11111");
        due("no other POST PAYS", x.plan(0, 0), 1);
        rowIs("no other HEAD is given one", x, 0, 0);
        fraction("no other PLANS", x, x.plans(0), 2, 1);
        due("no other POST is safest", x.safest(0), 1);
        rowIs("no other HEAD is given the safest", x, 0, 0);
        due("no other THUMB needs a PAD", x.all(0, 0), 0);
        due("nothing is gained by another POST", x.gain(0, 0), NONE);
        due("it is always that HEAD", x.lots(0, 5, 1), 5);
        fill(x, 0, 1, 1, 1, 1);
        both("no other HEAD's READING", x, x.whose(0, 0), 1, 1);
        fill(x, 0, 5, 5, 5, 5);
        both("no other HEAD's READING, by no other THUMB", x, x.whose(0, 0), 0, 0);
        due("by no other THUMB", x.who(0, 0), 0);
    }

    @Holds(in = "Promise 11", says = "BAD")
    static void officeBad() {
        textNumber("office(t)", ThumbReader::office);
    }

    @Holds(in = "Promise 11", says = "NOTHING")
    static void officeNothing() {
        finding(Edge::whole, "office(3)", x -> x.office(3), NOTHING);
        finding(ThumbReader::new, "office(0)", x -> x.office(0), NOTHING);
    }

    @Holds(in = "Promise 11", says = "STATE: a FAULT.")
    static void officeOfAFault() {
        state(Edge::whole, "an empty TEXT", x -> x.office(1));
        state(Edge::whole, "an end that comes too early", x -> x.office(2));
        state(() -> text("h00000h00000t00x"), "a FAULT at its last place", x -> x.office(3));
        state(() -> text("x"), "a FAULT at its first place", x -> x.office(3));
        state(() -> text("   "), "blanks alone", x -> x.office(3));
        state(() -> text("h55553h55553h55553h55553h55553h"), "a sixth HEAD", x -> x.office(3));
    }

    @Holds(in = "Promise 11", says = "(STATE behind NOTHING.)")
    static void stateBehindNothing() {
        finding(Edge::whole, "a missing TEXT is no FAULT", x -> x.office(3), NOTHING);
        finding(Edge::whole, "nor is it one to fault()", x -> x.fault(3), NOTHING);
    }

    @Holds(in = "Promise 12", says = "Of a HEAD: 0 .. 3 the BUMP at that PLACE, 4 the HAIR, 5 all BUMPS together, told by asked(): 1.")
    static void ofAHead() {
        ThumbReader x = office("h01233 h55550 h00003");
        headIs("HEAD 0", x, 0, 0, 1, 2, 3, 3, 6);
        headIs("HEAD 1: no HAIR among BUMPS", x, 1, 5, 5, 5, 5, 0, 20);
        headIs("HEAD 2: HAIR is no BUMP", x, 2, 0, 0, 0, 0, 3, 0);
    }

    @Holds(in = "Promise 12", says = "BAD.")
    static void headBad() {
        headNumber("head(h, 0)", (x, h) -> x.head(h, 0));
        bounds("head(0, what)", 0, 5, (x, what) -> x.head(0, what));
    }

    @Holds(in = "Promise 13", says = "Of a THUMB: 0 its KIND, 1 its ERROR, 2 its WISH, told by asked(): 1.")
    static void ofAThumb() {
        ThumbReader x = office("h00000 t00 d23 c02 v10");
        int[][] want = {{0, 0, 0}, {5, 2, 3}, {4, 0, 2}, {1, 1, 0}};
        for (int t = 0; t < 4; t++) {
            for (int what = 0; what < 3; what++) {
                told("thumb(" + t + ", " + what + ")", x, x.thumb(t, what), want[t][what]);
            }
        }
    }

    @Holds(in = "Promise 13", says = "BAD.")
    static void thumbBad() {
        thumbNumber("thumb(t, 0)", (x, t) -> x.thumb(t, 0));
        bounds("thumb(0, what)", 0, 2, (x, what) -> x.thumb(0, what));
    }

    @Holds(in = "Promise 14", says = "Of a POST: 0 .. 3 what it NEEDS at that PLACE, 4 the PAY, told by asked(): 1.")
    static void ofAPost() {
        ThumbReader x = office("h00000 p01261 p66669 p00009 p65431");
        int[][] want = {{0, 1, 2, 6, 1}, {6, 6, 6, 6, 9}, {0, 0, 0, 0, 9}, {6, 5, 4, 3, 1}};
        for (int p = 0; p < 4; p++) {
            for (int what = 0; what < 5; what++) {
                told("post(" + p + ", " + what + ")", x, x.post(p, what), want[p][what]);
            }
        }
    }

    @Holds(in = "Promise 14", says = "BAD.")
    static void postBad() {
        postNumber("post(p, 0)", (x, p) -> x.post(p, 0));
        bounds("post(0, what)", 0, 4, (x, what) -> x.post(0, what));
    }

    @Holds(in = "Promise 15", says = "What a THUMB that IS of a KIND tells: a HEAVY one (DULL, too) how many BUMPS FELT of all HEADS are 0")
    static void markOfAHeavyOne() {
        for (String thumb : new String[] {"v00", "d00", "v23", "d23"}) {
            due("none", office("h11110 h55550 " + thumb).mark(0, 1), 0);
            due("all of five HEADS", office("h00000h00000h00000h00000h00000 " + thumb).mark(0, 1), 20);
            due("1 is FELT as 0 under HAIR 2", office("h11112 " + thumb).mark(0, 1), 4);
            due("1 is FELT as 1 under HAIR 1", office("h11111 " + thumb).mark(0, 1), 0);
            due("0 stays 0 under HAIR 3", office("h01203 " + thumb).mark(0, 1), 3);
            due("the first PLACE", office("h01110 h11110 " + thumb).mark(0, 1), 1);
            due("the last PLACE of the last HEAD", office("h11110 h11100 " + thumb).mark(0, 1), 1);
        }
    }

    @Holds(in = "Promise 15", says = "a LIGHT one the greatest MOST of all")
    static void markOfALightOne() {
        due("the lowest", office("h00000 l00").mark(0, 2), 1);
        due("the highest", office("h55550 l20").mark(0, 2), 8);
        due("at the first PLACE of the first HEAD", office("h40000 h00000 l10").mark(0, 2), 6);
        due("at the last PLACE of the last HEAD", office("h00000 h00040 l10").mark(0, 2), 6);
        due("of five HEADS the last one's", office("h00000h00000h00000h00000h10000 l00").mark(0, 2), 2);
        due("of five HEADS the first one's", office("h30000h00000h00000h00000h10000 l00").mark(0, 2), 4);
        due("under HAIR", office("h00052 l10").mark(0, 2), 6);
        due("of 0 under HAIR 3", office("h00003 l00").mark(0, 2), 1);
    }

    @Holds(in = "Promise 15", says = "a WISHING one (CLERK, too) at how many HEADS it READS more at its WISH than at any other PLACE (LEAST against LEAST)")
    static void markOfAWishingOne() {
        for (int wish = 0; wish < 4; wish++) {
            String even = "h33330 h55552 ";
            due("1 more at its WISH", office(even + "w0" + wish).mark(0, 3), 2);
            due("1 more at its WISH, a CLERK", office(even + "c0" + wish).mark(0, 3), 2);
            for (int place = 0; place < 4; place++) {
                String head = "h3333".substring(0, 1 + place) + "4" + "3333".substring(place + 1) + "0 ";
                int want = place == wish ? 1 : 0;
                due("as much at PLACE " + place, office(head + "w0" + wish).mark(0, 3), want);
                due("as much at PLACE " + place + ", a CLERK", office(head + "c0" + wish).mark(0, 3), want);
            }
        }
        due("all of five HEADS", office("h00000h11110h22220h33330h44440 w00").mark(0, 3), 5);
        due("HAIR is no PLACE", office("h00003 w00").mark(0, 3), 1);
        due("HAIR is no PLACE, a CLERK", office("h00003 c00").mark(0, 3), 1);
    }

    @Holds(in = "Promise 15", says = "(LEAST against LEAST)")
    static void leastAgainstLeast() {
        due("MOSTS are unlike, LEASTS are both 0", office("h00000 w10").mark(0, 3), 0);
        due("a CLERK: LEASTS 0, 0, 0, 0", office("h00000 c20").mark(0, 3), 0);
        due("a CLERK: LEASTS 1, 0, 0, 0", office("h00000 c10").mark(0, 3), 1);
        due("LEASTS 1, 0, 0, 0, though MOSTS are above", office("h11110 w10").mark(0, 3), 1);
        due("LEAST 2 against MOST 4", office("h33330 w20").mark(0, 3), 1);
    }

    @Holds(in = "Promise 15", says = "a CLERK by how much all its LEASTS are above what is FELT, together")
    static void markOfAClerk() {
        due("1, 1, 1, 2", office("h55550 c03").mark(0, 4), 5);
        due("of five HEADS", office("h00000h11110h22220h33330h55553 c00").mark(0, 4), 25);
        due("0, 0, 0, 1", office("h55550 c13").mark(0, 4), 1);
        due("below what is FELT: -1, -1, -1, 0, twice", office("h55550h44440 c23").mark(0, 4), -6);
        due("LEASTS are 0 at least: 0, 0, 0, 0", office("h00000 c23").mark(0, 4), 0);
        due("-1, -1, -1, 0 and 0, 0, 0, 0", office("h11110h11112 c23").mark(0, 4), -3);
    }

    @Holds(in = "Promise 15", says = "a DULL one at how many PLACES of all HEADS its MIDDLE is 3.")
    static void markOfADullOne() {
        due("3 is 2", office("h33330 d00").mark(0, 5), 0);
        due("4 is 3", office("h43330 d00").mark(0, 5), 1);
        due("5 is 3, too", office("h33350 d00").mark(0, 5), 1);
        due("all of five HEADS", office("h44440h55550h45450h54540h55553 d20").mark(0, 5), 20);
        due("4 under HAIR is 2", office("h44442 d00").mark(0, 5), 0);
        due("not the MOST", office("h33330 d10").mark(0, 5), 0);
    }

    @Holds(in = "Promise 15", says = "BAD: also KIND 0")
    static void markBad() {
        Made kinds = () -> office("h00000 c00 c00 c00 d00");
        bounds(kinds, "mark(t, 3)", 0, 3, (x, t) -> x.mark(t, 3));
        bounds(kinds, "mark(3, kind)", 1, 5, (x, kind) -> x.mark(3, kind));
        bad(Edge::withoutThumbs, "no THUMBS", x -> x.mark(0, 1));
        bad(Edge::small, "KIND 0 of a THUMB of KIND 0", x -> x.mark(0, 0));
        bad(Edge::small, "BAD ahead of UNLIKE", x -> x.mark(1, 1));
    }

    @Holds(in = "Promise 15", says = "UNLIKE.")
    static void markUnlike() {
        finding(Edge::small, "a THUMB is no HEAVY one", x -> x.mark(0, 1), UNLIKE);
        finding(Edge::small, "a THUMB is no DULL one", x -> x.mark(0, 5), UNLIKE);
        finding(Edge::whole, "a HEAVY one is no DULL one", x -> x.mark(1, 5), UNLIKE);
        finding(Edge::whole, "a HEAVY one is no LIGHT one", x -> x.mark(1, 2), UNLIKE);
        finding(Edge::whole, "a LIGHT one is no HEAVY one", x -> x.mark(2, 1), UNLIKE);
        finding(Edge::whole, "a CLERK is no DULL one", x -> x.mark(3, 5), UNLIKE);
        finding(() -> office("h00000 w00"), "a WISHING one is no CLERK", x -> x.mark(0, 4), UNLIKE);
        finding(() -> office("h00000 d00"), "a DULL one is no CLERK", x -> x.mark(0, 4), UNLIKE);
    }

    @Holds(in = "Promise 16", says = "The ERROR of a THUMB is v (0 .. 2): what it was.")
    static void errorOfAThumb() {
        for (int was = 0; was <= 2; was++) {
            for (int v = 0; v <= 2; v++) {
                ThumbReader x = office("h33330 t13 l" + was + "1 t12");
                due("error(1, " + v + ")", x.error(1, v), was);
                told("it is so", x, x.thumb(1, 1), v);
                told("the KIND stays", x, x.thumb(1, 0), 2);
                told("the WISH stays", x, x.thumb(1, 2), 1);
                told("the one ahead stays", x, x.thumb(0, 1), 1);
                told("the one behind stays", x, x.thumb(2, 1), 1);
                both("it READS so", x, x.reads(1, 0, 0), 4 - v, 4 + v);
                due("it is no DEED", x.count(3), 0);
            }
        }
    }

    @Holds(in = "Promise 16", says = "BAD.")
    static void errorBad() {
        thumbNumber("error(t, 1)", (x, t) -> x.error(t, 1));
        bounds("error(0, v)", 0, 2, (x, v) -> x.error(0, v));
    }
}
