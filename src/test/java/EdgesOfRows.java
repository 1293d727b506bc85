/** Promises 1 to 9: a new object, rows, texts. */
final class EdgesOfRows extends Edge {
    private static ThumbReader rows(int[]... rows) {
        ThumbReader x = new ThumbReader();
        for (int r = 0; r < rows.length; r++) {
            fill(x, r, rows[r]);
        }
        return x;
    }

    private static int[] many(int n, int v) {
        int[] all = new int[n];
        java.util.Arrays.fill(all, v);
        return all;
    }

    @Holds(in = "Promise 1", says = "No ROWS, TEXTS, HEADS, THUMBS, POSTS.")
    static void newHasNoRows() {
        due("count(6)", new ThumbReader().count(6), 0);
        for (int r = 0; r < 6; r++) {
            int which = r;
            finding(ThumbReader::new, "at(" + r + ", 0)", x -> x.at(which, 0), NOTHING);
        }
    }

    @Holds(in = "Promise 1", says = "No ROWS, TEXTS, HEADS, THUMBS, POSTS.")
    static void newHasNoTexts() {
        due("count(7)", new ThumbReader().count(7), 0);
        for (int t = 0; t < 4; t++) {
            int which = t;
            finding(ThumbReader::new, "put(" + t + ", 0, 0)", x -> x.put(which, 0, 0), NOTHING);
        }
    }

    @Holds(in = "Promise 1", says = "No ROWS, TEXTS, HEADS, THUMBS, POSTS.")
    static void newHasNoHeadsThumbsPosts() {
        for (int what = 0; what <= 5; what++) {
            due("count(" + what + ")", new ThumbReader().count(what), 0);
        }
        due("no kept OFFICES", new ThumbReader().count(8), 0);
        bad(ThumbReader::new, "head(0, 5)", x -> x.head(0, 5));
        bad(ThumbReader::new, "thumb(0, 0)", x -> x.thumb(0, 0));
        bad(ThumbReader::new, "post(0, 4)", x -> x.post(0, 4));
    }

    @Holds(in = "Promise 1", says = "No ROWS, TEXTS, HEADS, THUMBS, POSTS.")
    static void newOnesShareNothing() {
        ThumbReader used = whole();
        due("digest() of a new one beside a used one", new ThumbReader().digest(), new ThumbReader().digest());
        due("count(0)", new ThumbReader().count(0), 0);
        due("the used one stays", used.count(0), 5);
    }

    @Holds(in = "Promise 2", says = "A ROW is there with n ints 0: n.")
    static void rowOfNoughts() {
        for (int n : new int[] {0, 1, 39, 40}) {
            ThumbReader x = new ThumbReader();
            due("row(1, " + n + ")", x.row(1, n), n);
            rowIs("row(1, " + n + ")", x, 1, new int[n]);
            due("count(6)", x.count(6), 1);
        }
    }

    @Holds(in = "Promise 2", says = "A ROW is there with n ints 0: n.")
    static void rowAnew() {
        ThumbReader x = rows(many(5, 7), many(3, 8));
        due("as many", x.row(0, 5), 5);
        rowIs("as many", x, 0, 0, 0, 0, 0, 0);
        fill(x, 0, 1, 2, 3, 4, 5);
        due("fewer", x.row(0, 2), 2);
        rowIs("fewer", x, 0, 0, 0);
        due("more again", x.row(0, 6), 6);
        rowIs("more again", x, 0, 0, 0, 0, 0, 0, 0);
        rowIs("the other ROW stays", x, 1, 8, 8, 8);
    }

    /** ROW 0 was full of this number, then it came anew with those places. */
    private static ThumbReader anew(ThumbReader x, int was, int... places) {
        fill(x, 0, many(40, was));
        fill(x, 0, places);
        return x;
    }

    @Holds(in = "Promise 2", says = "A ROW is there with n ints 0: n.")
    static void nothingOfALongerRowIsLeft() {
        for (int was : new int[] {1, 0, MAX, -1}) {
            ThumbReader x = anew(office("h11110 h00000 t00"), was, 1, 1, 1, 1);
            due("fits", x.fits(0, 0, 0), 1);
            due("whose", x.whose(0, 0), 1);
            ThumbReader y = anew(office("h11110 h00000 t00"), was, 1, 0);
            both("tells", y, y.tells(0), 15, 1);
            ThumbReader z = anew(office("h11110 h00000 t00"), was, 0, 0, 1);
            both("learn", z, z.learn(0, 0), 0b001001, 15);
            ThumbReader mean = anew(new ThumbReader(), was, 4, 6);
            told("mean", mean, 5);
            ThumbReader five = anew(office("h11110h00000h00000h00000h00000"), was, 1, 0, 0, 0, 0);
            both("tells of five", five, five.tells(0), 15, 4);
        }
    }

    @Holds(in = "Promise 2", says = "BAD")
    static void rowBad() {
        rowNumber("row(r, 3)", (x, r) -> x.row(r, 3));
    }

    @Holds(in = "Promise 2", says = "BAD: also n above 40")
    static void rowAbove40() {
        due("40", new ThumbReader().row(0, 40), 40);
        bad(Edge::whole, "41", x -> x.row(0, 41));
        bad(Edge::whole, "most", x -> x.row(0, MAX));
    }

    @Holds(in = "Promise 2", says = "SIZE: below 0.")
    static void rowBelow0() {
        due("0", new ThumbReader().row(0, 0), 0);
        finding(Edge::whole, "-1", x -> x.row(0, -1), SIZE);
        finding(Edge::whole, "least", x -> x.row(0, MIN), SIZE);
        finding(Edge::whole, "a missing ROW stays missing", x -> x.row(5, -1), SIZE);
    }

    @Holds(in = "Promise 3", says = "Place i of a ROW is v: what it was, told by asked(): 1.")
    static void layFirstAndLast() {
        ThumbReader x = rows(many(40, 3));
        told("the first place", x, x.lay(0, 0, MAX), 3);
        told("the last place", x, x.lay(0, 39, MIN), 3);
        told("the first place again", x, x.lay(0, 0, 0), MAX);
        told("the last place again", x, x.lay(0, 39, -1), MIN);
        told("a place between stays", x, x.at(0, 1), 3);
        told("a place between stays", x, x.at(0, 38), 3);
        told("it is -1", x, x.at(0, 39), -1);
    }

    @Holds(in = "Promise 3", says = "BAD")
    static void layBad() {
        rowNumber("lay(r, 0, 1)", (x, r) -> x.lay(r, 0, 1));
    }

    @Holds(in = "Promise 3", says = "NOTHING")
    static void layNothing() {
        finding(Edge::whole, "lay(5, 0, 1)", x -> x.lay(5, 0, 1), NOTHING);
        finding(Edge::whole, "NOTHING ahead of BEYOND", x -> x.lay(5, -1, 1), NOTHING);
        finding(Edge::whole, "NOTHING ahead of BEYOND", x -> x.lay(5, 40, 1), NOTHING);
    }

    @Holds(in = "Promise 3", says = "BEYOND.")
    static void layBeyond() {
        for (int i : new int[] {-1, 4, MIN, MAX}) {
            finding(Edge::whole, "lay(0, " + i + ", 1)", x -> x.lay(0, i, 1), BEYOND);
        }
        finding(Edge::whole, "of an empty ROW", x -> x.lay(3, 0, 1), BEYOND);
        finding(Edge::whole, "of a full ROW", x -> x.lay(4, 40, 1), BEYOND);
    }

    @Holds(in = "Promise 4", says = "Place i of a ROW, told by asked(): 1.")
    static void atFirstAndLast() {
        int[] places = many(40, 0);
        places[0] = MIN;
        places[39] = MAX;
        ThumbReader x = rows(places);
        told("the first place", x, x.at(0, 0), MIN);
        told("the last place", x, x.at(0, 39), MAX);
        told("it stays", x, x.at(0, 0), MIN);
    }

    @Holds(in = "Promise 4", says = "BAD")
    static void atBad() {
        rowNumber("at(r, 0)", (x, r) -> x.at(r, 0));
    }

    @Holds(in = "Promise 4", says = "NOTHING")
    static void atNothing() {
        finding(Edge::whole, "at(5, 0)", x -> x.at(5, 0), NOTHING);
        finding(Edge::whole, "NOTHING ahead of BEYOND", x -> x.at(5, -1), NOTHING);
        finding(Edge::whole, "NOTHING ahead of BEYOND", x -> x.at(5, 40), NOTHING);
    }

    @Holds(in = "Promise 4", says = "BEYOND.")
    static void atBeyond() {
        for (int i : new int[] {-1, 4, MIN, MAX}) {
            finding(Edge::whole, "at(0, " + i + ")", x -> x.at(0, i), BEYOND);
        }
        finding(Edge::whole, "of an empty ROW", x -> x.at(3, 0), BEYOND);
        finding(Edge::whole, "of a full ROW", x -> x.at(4, 40), BEYOND);
    }

    @Holds(in = "Promise 5", says = "A ROW is missing: 1.")
    static void tearOnes() {
        for (int r : new int[] {0, 3, 4}) {
            ThumbReader x = whole();
            due("tear(" + r + ")", x.tear(r), 1);
            due("five less one", x.count(6), 4);
            due("it is missing", x.at(r, 0), FINDING);
            due("it is missing", x.finding(), NOTHING);
            due("it comes again", x.row(r, 2), 2);
            rowIs("with noughts", x, r, 0, 0);
        }
    }

    @Holds(in = "Promise 5", says = "BAD")
    static void tearBad() {
        rowNumber("tear(r)", ThumbReader::tear);
    }

    @Holds(in = "Promise 5", says = "NOTHING.")
    static void tearNothing() {
        finding(Edge::whole, "never there", x -> x.tear(5), NOTHING);
        finding(Edge::tornOnce, "torn twice", x -> x.tear(0), NOTHING);
    }

    @Holds(in = "Promise 6", says = "n places of a ROW, from one on, come to those of another one (perhaps itself) "
        + "from one on, as if taken ahead: 1.")
    static void copyToAnother() {
        ThumbReader x = rows(new int[] {1, 2, 3, 4}, new int[] {5, 6, 7});
        due("the last two to the first two", x.copy(0, 2, 1, 0, 2), 1);
        rowIs("the last two to the first two", x, 1, 3, 4, 7);
        rowIs("they stay", x, 0, 1, 2, 3, 4);
        due("the first to the last", x.copy(0, 0, 1, 2, 1), 1);
        rowIs("the first to the last", x, 1, 3, 4, 1);
        due("as many as there are", x.copy(1, 0, 0, 1, 3), 1);
        rowIs("as many as there are", x, 0, 1, 3, 4, 1);
    }

    @Holds(in = "Promise 6", says = "n places of a ROW, from one on, come to those of another one (perhaps itself) "
        + "from one on, as if taken ahead: 1.")
    static void copyAll40() {
        ThumbReader x = rows(many(40, 6), many(40, -6));
        due("all", x.copy(0, 0, 1, 0, 40), 1);
        rowIs("all", x, 1, many(40, 6));
    }

    @Holds(in = "Promise 6", says = "n places of a ROW, from one on, come to those of another one (perhaps itself) "
        + "from one on, as if taken ahead: 1.")
    static void copyToItself() {
        ThumbReader x = rows(new int[] {1, 2, 3, 4, 5});
        due("one behind", x.copy(0, 0, 0, 1, 4), 1);
        rowIs("one behind", x, 0, 1, 1, 2, 3, 4);
        ThumbReader y = rows(new int[] {1, 2, 3, 4, 5});
        due("one ahead", y.copy(0, 1, 0, 0, 4), 1);
        rowIs("one ahead", y, 0, 2, 3, 4, 5, 5);
        ThumbReader z = rows(new int[] {1, 2, 3, 4, 5});
        due("where it is", z.copy(0, 0, 0, 0, 5), 1);
        rowIs("where it is", z, 0, 1, 2, 3, 4, 5);
    }

    @Holds(in = "Promise 6", says = "n places of a ROW, from one on, come to those of another one (perhaps itself) "
        + "from one on, as if taken ahead: 1.")
    static void copyOfNone() {
        answers(Edge::whole, "at the first place", x -> x.copy(0, 0, 1, 0, 0), 1);
        answers(Edge::whole, "just behind the last one", x -> x.copy(0, 4, 1, 6, 0), 1);
        answers(Edge::whole, "of an empty ROW", x -> x.copy(3, 0, 3, 0, 0), 1);
        answers(Edge::whole, "behind a full ROW", x -> x.copy(4, 40, 4, 40, 0), 1);
    }

    @Holds(in = "Promise 6", says = "BAD")
    static void copyBad() {
        rowNumber("copy(r, 0, 4, 0, 0)", (x, r) -> x.copy(r, 0, 4, 0, 0));
        rowNumber("copy(4, 0, r, 0, 0)", (x, r) -> x.copy(4, 0, r, 0, 0));
        bad(Edge::whole, "BAD ahead of SIZE", x -> x.copy(6, 0, 0, 0, -1));
        bad(Edge::whole, "BAD ahead of NOTHING", x -> x.copy(5, 0, 6, 0, 1));
        bad(Edge::whole, "BAD ahead of NOTHING", x -> x.copy(-1, 0, 5, 0, 1));
        bad(Edge::whole, "BAD ahead of BEYOND", x -> x.copy(0, 9, -1, 9, 9));
    }

    @Holds(in = "Promise 6", says = "SIZE: n below 0")
    static void copyBelow0() {
        finding(Edge::whole, "-1", x -> x.copy(0, 0, 1, 0, -1), SIZE);
        finding(Edge::whole, "least", x -> x.copy(0, 0, 1, 0, MIN), SIZE);
        finding(Edge::whole, "SIZE ahead of NOTHING", x -> x.copy(5, 0, 5, 0, -1), SIZE);
        finding(Edge::whole, "SIZE ahead of BEYOND", x -> x.copy(0, 9, 1, -1, -1), SIZE);
    }

    @Holds(in = "Promise 6", says = "NOTHING: either")
    static void copyNothing() {
        finding(Edge::whole, "the first", x -> x.copy(5, 0, 0, 0, 1), NOTHING);
        finding(Edge::whole, "the second", x -> x.copy(0, 0, 5, 0, 1), NOTHING);
        finding(Edge::whole, "both", x -> x.copy(5, 0, 5, 0, 0), NOTHING);
        finding(Edge::whole, "NOTHING ahead of BEYOND", x -> x.copy(5, -1, 0, 9, 1), NOTHING);
        finding(Edge::whole, "NOTHING ahead of BEYOND", x -> x.copy(0, 9, 5, 0, 1), NOTHING);
    }

    @Holds(in = "Promise 6", says = "BEYOND: not so many there.")
    static void copyFromBeyond() {
        finding(Edge::whole, "one too many", x -> x.copy(0, 0, 4, 0, 5), BEYOND);
        finding(Edge::whole, "one too far behind", x -> x.copy(0, 1, 4, 0, 4), BEYOND);
        finding(Edge::whole, "behind the last one", x -> x.copy(0, 4, 4, 0, 1), BEYOND);
        finding(Edge::whole, "ahead of the first one", x -> x.copy(0, -1, 4, 0, 1), BEYOND);
        finding(Edge::whole, "none, too far behind", x -> x.copy(0, 5, 4, 0, 0), BEYOND);
        finding(Edge::whole, "none, ahead of the first one", x -> x.copy(0, -1, 4, 0, 0), BEYOND);
        finding(Edge::whole, "of an empty ROW", x -> x.copy(3, 0, 4, 0, 1), BEYOND);
    }

    @Holds(in = "Promise 6", says = "BEYOND: not so many there.")
    static void copyToBeyond() {
        finding(Edge::whole, "one too many", x -> x.copy(4, 0, 0, 0, 5), BEYOND);
        finding(Edge::whole, "one too far behind", x -> x.copy(4, 0, 0, 1, 4), BEYOND);
        finding(Edge::whole, "behind the last one", x -> x.copy(4, 0, 0, 4, 1), BEYOND);
        finding(Edge::whole, "ahead of the first one", x -> x.copy(4, 0, 0, -1, 1), BEYOND);
        finding(Edge::whole, "none, too far behind", x -> x.copy(4, 0, 0, 5, 0), BEYOND);
        finding(Edge::whole, "none, ahead of the first one", x -> x.copy(4, 0, 0, -1, 0), BEYOND);
        finding(Edge::whole, "41 of 40", x -> x.copy(4, 0, 4, 0, 41), BEYOND);
    }

    @Holds(in = "Promise 6", says = "BEYOND: not so many there.")
    static void copyWhereSumsWrapAround() {
        for (int v : new int[] {MAX, MAX - 1, MAX - 40}) {
            finding(Edge::whole, "from " + v, x -> x.copy(4, v, 4, 0, 40), BEYOND);
            finding(Edge::whole, "to " + v, x -> x.copy(4, 0, 4, v, 40), BEYOND);
            finding(Edge::whole, "so many as " + v, x -> x.copy(4, 40, 4, 40, v), BEYOND);
            finding(Edge::whole, "all " + v, x -> x.copy(4, v, 4, v, v), BEYOND);
        }
        finding(Edge::whole, "from the least", x -> x.copy(4, MIN, 4, 0, 40), BEYOND);
        finding(Edge::whole, "to the least", x -> x.copy(4, 0, 4, MIN, 40), BEYOND);
    }

    @Holds(in = "Promise 7", says = "The mean of a ROW's ints, cut, told by asked(): 1.")
    static void meanIsCut() {
        told("5 by 3", rows(new int[] {1, 2, 2}), 1);
        told("-5 by 3", rows(new int[] {-1, -2, -2}), -1);
        told("2 by 3", rows(new int[] {0, 0, 2}), 0);
        told("-2 by 3", rows(new int[] {0, 0, -2}), 0);
        told("40 by 40", rows(many(40, 1)), 1);
        ThumbReader less = rows(many(40, 1));
        less.lay(0, 39, 0);
        told("39 by 40", less, 0);
        told("6 by 3", rows(new int[] {1, 2, 3}), 2);
        told("-6 by 3", rows(new int[] {-1, -2, -3}), -2);
        told("one", rows(new int[] {-7}), -7);
    }

    private static void told(String what, ThumbReader x, int mean) {
        told(what, x, x.mean(0), mean);
    }

    @Holds(in = "Promise 7", says = "The mean of a ROW's ints, cut, told by asked(): 1.")
    static void meanOfFarthestInts() {
        told("40 greatest", rows(many(40, MAX)), MAX);
        told("40 least", rows(many(40, MIN)), MIN);
        told("greatest and least", rows(new int[] {MAX, MIN}), 0);
        told("greatest twice, least once", rows(new int[] {MAX, MAX, MIN}), 715827882);
    }

    @Holds(in = "Promise 7", says = "BAD")
    static void meanBad() {
        rowNumber("mean(r)", ThumbReader::mean);
    }

    @Holds(in = "Promise 7", says = "NOTHING")
    static void meanNothing() {
        finding(Edge::whole, "never there", x -> x.mean(5), NOTHING);
        finding(Edge::tornOnce, "torn", x -> x.mean(0), NOTHING);
    }

    @Holds(in = "Promise 7", says = "NOUGHT.")
    static void meanNought() {
        finding(Edge::whole, "an empty ROW", x -> x.mean(3), NOUGHT);
    }

    @Holds(in = "Promise 8", says = "A TEXT is there with n blanks: n.")
    static void textOfBlanks() {
        for (int n : new int[] {0, 1, 79, 80}) {
            ThumbReader x = new ThumbReader();
            due("text(1, " + n + ")", x.text(1, n), n);
            due("count(7)", x.count(7), 1);
            for (int i = 0; i < n; i++) {
                due("put(1, " + i + ", 7)", x.put(1, i, 7), 1032);
            }
            due("no further place", x.put(1, n, 7), FINDING);
            due("anew", x.text(1, n), n);
            for (int i = 0; i < n; i++) {
                due("put(1, " + i + ", 8) anew", x.put(1, i, 8), 1032);
            }
        }
    }

    @Holds(in = "Promise 8", says = "BAD")
    static void textBad() {
        textNumber("text(t, 3)", (x, t) -> x.text(t, 3));
    }

    @Holds(in = "Promise 8", says = "BAD: also n above 80")
    static void textAbove80() {
        due("80", new ThumbReader().text(0, 80), 80);
        bad(Edge::whole, "81", x -> x.text(0, 81));
        bad(Edge::whole, "most", x -> x.text(0, MAX));
    }

    @Holds(in = "Promise 8", says = "SIZE: below 0.")
    static void textBelow0() {
        due("0", new ThumbReader().text(0, 0), 0);
        finding(Edge::whole, "-1", x -> x.text(0, -1), SIZE);
        finding(Edge::whole, "least", x -> x.text(0, MIN), SIZE);
        finding(Edge::whole, "a missing TEXT stays missing", x -> x.text(3, -1), SIZE);
    }

    @Holds(in = "Promise 9", says = "Byte i of a TEXT is v, cut to a byte: what it was, and 1000 more.")
    static void putIsCutToAByte() {
        int[] numbers = {0, 127, 128, 255, 256, -1, -128, -129, -256, MAX, MIN, 1032, 65536 + 104};
        int[] bytes = {0, 127, -128, -1, 0, -1, -128, 127, 0, -1, 0, 8, 104};
        for (int i = 0; i < numbers.length; i++) {
            ThumbReader x = new ThumbReader();
            x.text(0, 80);
            due("a blank was there", x.put(0, 79, numbers[i]), 1032);
            due(numbers[i] + " was there", x.put(0, 79, 0), 1000 + bytes[i]);
        }
    }

    @Holds(in = "Promise 9", says = "Byte i of a TEXT is v, cut to a byte: what it was, and 1000 more.")
    static void putFirstAndLast() {
        ThumbReader x = new ThumbReader();
        x.text(2, 3);
        due("the first", x.put(2, 0, 1), 1032);
        due("the last", x.put(2, 2, 3), 1032);
        due("the middle one stays", x.put(2, 1, 2), 1032);
        due("the first was 1", x.put(2, 0, 9), 1001);
        due("the middle one was 2", x.put(2, 1, 9), 1002);
        due("the last was 3", x.put(2, 2, 9), 1003);
    }

    @Holds(in = "Promise 9", says = "Byte i of a TEXT is v, cut to a byte: what it was, and 1000 more.")
    static void putCutMakesAnOffice() {
        ThumbReader x = new ThumbReader();
        x.text(0, 6);
        int[] signs = {104 + 256, 48 - 256, 49 + 512, 50, 51, 48};
        for (int i = 0; i < signs.length; i++) {
            x.put(0, i, signs[i]);
        }
        due("an OFFICE by bytes that were cut", x.office(0), 1);
        headIs("by bytes that were cut", x, 0, 0, 1, 2, 3, 0);
    }

    @Holds(in = "Promise 9", says = "BAD")
    static void putBad() {
        textNumber("put(t, 0, 1)", (x, t) -> x.put(t, 0, 1));
    }

    @Holds(in = "Promise 9", says = "NOTHING")
    static void putNothing() {
        finding(Edge::whole, "put(3, 0, 1)", x -> x.put(3, 0, 1), NOTHING);
        finding(Edge::whole, "NOTHING ahead of BEYOND", x -> x.put(3, -1, 1), NOTHING);
        finding(Edge::whole, "NOTHING ahead of BEYOND", x -> x.put(3, 80, 1), NOTHING);
    }

    @Holds(in = "Promise 9", says = "BEYOND.")
    static void putBeyond() {
        for (int i : new int[] {-1, 5, MIN, MAX}) {
            finding(Edge::whole, "put(2, " + i + ", 1)", x -> x.put(2, i, 1), BEYOND);
        }
        finding(Edge::whole, "of an empty TEXT", x -> x.put(1, 0, 1), BEYOND);
        finding(() -> textOf80(), "of a full TEXT", x -> x.put(0, 80, 1), BEYOND);
    }

    private static ThumbReader textOf80() {
        ThumbReader x = new ThumbReader();
        x.text(0, 80);
        return x;
    }
}
