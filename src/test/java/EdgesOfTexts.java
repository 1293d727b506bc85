/** Section 1 up to the KINDS: ROWS and TEXTS there may be, and how an OFFICE is written. */
final class EdgesOfTexts extends Edge {
    private static final String H5 = "h00000h00000h00000h00000h00000";
    private static final String FAULT = "A FAULT is the first place at which it can't go on so (";

    /** A FAULT at this place (NONE: no FAULT), in the words of fault() and of office(). */
    private static void fault(String signs, int want) {
        ThumbReader x = new ThumbReader();
        write(x, 3, signs);
        due("fault of '" + signs + "'", x.fault(3), want);
        int heads = (int) signs.chars().filter(sign -> sign == 'h').count();
        due("office of '" + signs + "'", x.office(3), want == NONE ? heads : STATE);
    }

    private static void fine(String signs) {
        fault(signs, NONE);
    }

    /** Each figure of an item, at its place, just below the lowest and just above the highest one. */
    private static void figure(String ahead, String item, int i, char lowest, char highest) {
        int place = ahead.length() + i;
        for (char figure = lowest; figure <= highest; figure++) {
            fine(with(ahead + item, place, figure));
        }
        fault(with(ahead + item, place, (char) (lowest - 1)), place);
        fault(with(ahead + item, place, (char) (highest + 1)), place);
        fault(with(ahead + item, place, 'a'), place);
        fault(with(ahead + item, place, '-'), place);
    }

    private static String with(String signs, int place, char sign) {
        return signs.substring(0, place) + sign + signs.substring(place + 1);
    }

    @Holds(in = "Section 1", says = "ROWS 0 .. 5 are rows of 0 to 40 ints")
    static void rows() {
        rowNumber("row(r, 1)", (x, r) -> x.row(r, 1));
        ThumbReader x = new ThumbReader();
        for (int r = 0; r < 6; r++) {
            due("row(" + r + ", 40)", x.row(r, 40), 40);
        }
        due("six ROWS", x.count(6), 6);
        due("of 0 ints", x.row(2, 0), 0);
        due("six ROWS still", x.count(6), 6);
        due("of 41 ints", x.row(2, 41), BAD);
        due("of -1 ints", x.row(2, -1), FINDING);
    }

    @Holds(in = "Section 1", says = "TEXTS 0 .. 3 rows of 0 to 80 bytes")
    static void texts() {
        textNumber("text(t, 1)", (x, t) -> x.text(t, 1));
        ThumbReader x = new ThumbReader();
        for (int t = 0; t < 4; t++) {
            due("text(" + t + ", 80)", x.text(t, 80), 80);
        }
        due("four TEXTS", x.count(7), 4);
        due("of 0 bytes", x.text(2, 0), 0);
        due("four TEXTS still", x.count(7), 4);
        due("of 81 bytes", x.text(2, 81), BAD);
        due("of -1 bytes", x.text(2, -1), FINDING);
    }

    @Holds(in = "Section 1", says = "or missing (at first).")
    static void missingAtFirst() {
        for (int r = 0; r < 6; r++) {
            int which = r;
            finding(ThumbReader::new, "ROW " + r, x -> x.tear(which), NOTHING);
        }
        for (int t = 0; t < 4; t++) {
            int which = t;
            finding(ThumbReader::new, "TEXT " + t, x -> x.fault(which), NOTHING);
        }
    }

    @Holds(in = "Section 1", says = "An OFFICE (without HEADS, THUMBS, POSTS at first) is a TEXT")
    static void emptyAtFirst() {
        for (int what = 0; what <= 8; what++) {
            due("count(" + what + ")", new ThumbReader().count(what), 0);
        }
        bad(ThumbReader::new, "HEAD 0", x -> x.head(0, 0));
        bad(ThumbReader::new, "THUMB 0", x -> x.thumb(0, 0));
        bad(ThumbReader::new, "POST 0", x -> x.post(0, 0));
    }

    @Holds(in = "Section 1", says = "blanks (32) ahead, between, behind as many as wanted")
    static void blanksAsManyAsWanted() {
        fine("h00000t00p00001");
        fine(" h00000 t00 p00001 ");
        fine("   h00000h00000   t00t00   p00001p00001   ");
        fine(" ".repeat(74) + "h00000");
        fine("h00000" + " ".repeat(74));
        fine("h00000" + " ".repeat(68) + "h00000");
        fine("h00000" + " ".repeat(65) + "t00p00001");
        fine("h00000t00" + " ".repeat(65) + "p00001");
        fine("h00000  h00000");
        fine("h00000 t00  t00");
        fine("h00000 p00001  p00001");
    }

    @Holds(in = "Section 1", says = "blanks (32) ahead, between, behind as many as wanted")
    static void noOtherBlanks() {
        for (char sign : new char[] {0, 9, 10, 13, 31, 33, 95, 128 + 32}) {
            fault(sign + "h00000", 0);
            fault("h00000" + sign, 6);
            fault("h00000 " + sign + "t00", 7);
        }
    }

    @Holds(in = "Section 1", says = "none within items.")
    static void noBlanksWithinItems() {
        String whole = "h00000t00p00001";
        for (int place : new int[] {1, 2, 3, 4, 5, 7, 8, 10, 11, 12, 13, 14}) {
            fault(whole.substring(0, place) + " " + whole.substring(place), place);
        }
    }

    @Holds(in = "Section 1", says = "First HEADS (1 to 5; 0, 1, .. as they come)")
    static void oneToFiveHeads() {
        fault("t00", 0);
        fault("p00001", 0);
        fine("h00000");
        fine(H5);
        fine(H5 + " t00 p00001");
        fault(H5 + "h00000", 30);
    }

    @Holds(in = "Section 1", says = "First HEADS (1 to 5; 0, 1, .. as they come)")
    static void headsAsTheyCome() {
        ThumbReader x = office("h10000 h20000 h30000 h40000 h50000");
        for (int h = 0; h < 5; h++) {
            told("HEAD " + h, x, x.head(h, 0), h + 1);
        }
    }

    @Holds(in = "Section 1", says = "h (104), the BUMP at each of the PLACES 0, 1, 2, 3 (0 .. 5, one figure each)")
    static void bumps() {
        for (int i = 1; i <= 4; i++) {
            figure("", "h00000", i, '0', '5');
            figure("h00000 ", "h55553", i, '0', '5');
        }
        fault("g00000", 0);
        fault("i00000", 0);
        fault("H00000", 0);
        ThumbReader x = office("h01253");
        headIs("by PLACES", x, 0, 0, 1, 2, 5);
    }

    @Holds(in = "Section 1", says = "the HAIR (0 .. 3, one figure).")
    static void hair() {
        figure("", "h00000", 5, '0', '3');
        figure("h00000", "h55550", 5, '0', '3');
        fault("h000000", 6);
        told("HAIR 3", office("h00003"), 3);
        told("HAIR 0", office("h55550"), 0);
    }

    private static void told(String what, ThumbReader x, int hair) {
        told(what, x, x.head(0, 4), hair);
    }

    @Holds(in = "Section 1", says = "Then THUMBS (4 at most)")
    static void fourThumbsAtMost() {
        fine("h00000t00t00t00t00");
        fine("h00000t00v00l00w00");
        fault("h00000t00t00t00t00t00", 18);
        fault("h00000 t00 v00 l00 w00  c00", 24);
        fine("h00000t00t00t00t00p00001");
    }

    @Holds(in = "Section 1", says = "a letter, the ERROR (0 .. 2), the WISH (a PLACE 0 .. 3), one figure each.")
    static void errorAndWish() {
        for (String letter : new String[] {"t", "v", "l", "w", "c", "d"}) {
            figure("h00000", letter + "00", 1, '0', '2');
            figure("h00000", letter + "00", 2, '0', '3');
        }
        fault("h00000t000", 9);
        ThumbReader x = office("h00000 t23 l01");
        told("the ERROR", x, x.thumb(0, 1), 2);
        told("the WISH", x, x.thumb(0, 2), 3);
        told("the other's ERROR", x, x.thumb(1, 1), 0);
        told("the other's WISH", x, x.thumb(1, 2), 1);
    }

    @Holds(in = "Section 1", says = "Then POSTS (4 at most)")
    static void fourPostsAtMost() {
        fine("h00000p00001p00001p00001p00001");
        fault("h00000p00001p00001p00001p00001p00001", 30);
        fault("h00000 p00001 p00001 p00001 p00001  p", 36);
        fine(H5 + "t00t00t00t00p00001p00001p00001p00001");
    }

    @Holds(in = "Section 1", says = "p (112), what it NEEDS at each PLACE (0 .. 6, one figure each)")
    static void needs() {
        for (int i = 1; i <= 4; i++) {
            figure("h00000", "p00001", i, '0', '6');
            figure("h00000t00", "p66669", i, '0', '6');
        }
        fault("h00000o00001", 6);
        fault("h00000q00001", 6);
        fault("h00000P00001", 6);
        ThumbReader x = office("h00000 p01269");
        for (int place = 0; place < 4; place++) {
            told("PLACE " + place, x, x.post(0, place), "0126".charAt(place) - '0');
        }
    }

    @Holds(in = "Section 1", says = "the PAY (1 .. 9, one figure).")
    static void pay() {
        figure("h00000", "p00001", 5, '1', '9');
        figure("h00000t00", "p66661", 5, '1', '9');
        fault("h00000p000010", 12);
        ThumbReader x = office("h00000 p66661 p00009");
        told("the PAY", x, x.post(0, 4), 1);
        told("the other's PAY", x, x.post(1, 4), 9);
    }

    @Holds(in = "Section 1", says = FAULT)
    static void theFirstFault() {
        fault("h60006 x", 1);
        fault("x h60000", 0);
        fault("h00000 x t33", 7);
        fault("h00000 t3", 8);
        fault("h0000", 5);
        fault("h00000 t00 h00000 q", 11);
    }

    @Holds(in = "Section 1", says = "a letter, a figure that is none such")
    static void lettersThatAreNoneSuch() {
        for (int sign = -128; sign <= 127; sign++) {
            boolean goesOn = sign == 32 || sign == 'h' || sign == 'p' || "tvlwcd".indexOf(sign) >= 0;
            ThumbReader x = new ThumbReader();
            write(x, 0, "h00000?");
            x.put(0, 6, sign);
            due("fault behind a HEAD with " + sign, x.fault(0), sign == 32 ? NONE : goesOn ? 7 : 6);
        }
    }

    @Holds(in = "Section 1", says = "a letter, a figure that is none such")
    static void firstLettersThatAreNoneSuch() {
        for (int sign = -128; sign <= 127; sign++) {
            ThumbReader x = new ThumbReader();
            write(x, 0, "?");
            x.put(0, 0, sign);
            due("fault at first with " + sign, x.fault(0), sign == 32 || sign == 'h' ? 1 : 0);
        }
    }

    @Holds(in = "Section 1", says = "a letter, a figure that is none such")
    static void figuresThatAreNoneSuch() {
        for (int sign = -128; sign <= 127; sign++) {
            ThumbReader x = new ThumbReader();
            write(x, 0, "h0000?t0?p0000?");
            x.put(0, 5, sign);
            boolean hair = sign >= '0' && sign <= '3';
            due("fault with HAIR " + sign, x.fault(0), hair ? 8 : 5);
            x.put(0, 5, '0');
            x.put(0, 8, sign);
            due("fault with WISH " + sign, x.fault(0), hair ? 14 : 8);
            x.put(0, 8, '0');
            x.put(0, 14, sign);
            due("fault with PAY " + sign, x.fault(0), sign >= '1' && sign <= '9' ? NONE : 14);
        }
    }

    @Holds(in = "Section 1", says = "a sixth HEAD, a fifth THUMB, POST")
    static void sixthHead() {
        fault(H5 + "h00000", 30);
        fault(H5 + "h", 30);
        fault(H5 + "   h00000", 33);
    }

    @Holds(in = "Section 1", says = "a sixth HEAD, a fifth THUMB, POST")
    static void fifthThumb() {
        fault("h00000t00v00l00w00c00", 18);
        fault("h00000t00v00l00w00 d", 19);
        fault("h00000d00d00d00d00d", 18);
    }

    @Holds(in = "Section 1", says = "a sixth HEAD, a fifth THUMB, POST")
    static void fifthPost() {
        fault("h00000t00p00001p00001p00001p00001p00001", 33);
        fault("h00000p00001p00001p00001p00001 p", 31);
    }

    @Holds(in = "Section 1", says = "a sort ahead of its turn or behind it: its place")
    static void aheadOfItsTurn() {
        for (String letter : new String[] {"t", "v", "l", "w", "c", "d"}) {
            fault(letter + "00h00000", 0);
            fault("  " + letter + "00h00000", 2);
        }
        fault("p00001h00000", 0);
        fault("   p00001", 3);
    }

    @Holds(in = "Section 1", says = "a sort ahead of its turn or behind it: its place")
    static void behindItsTurn() {
        fault("h00000t00h00000", 9);
        fault("h00000p00001h00000", 12);
        fault("h00000t00p00001 h00000", 16);
        for (String letter : new String[] {"t", "v", "l", "w", "c", "d"}) {
            fault("h00000p00001" + letter + "00", 12);
            fault("h00000t00p00001 " + letter + "00", 16);
        }
    }

    @Holds(in = "Section 1", says = "the TEXT's size, if its end comes too early, or there are blanks alone).")
    static void endTooEarly() {
        for (int size = 1; size <= 5; size++) {
            fault("h00000".substring(0, size), size);
            fault("h00000h55553".substring(0, 6 + size), 6 + size);
            fault("h00000t00p00001".substring(0, 9 + size), 9 + size);
        }
        fault("h00000t", 7);
        fault("h00000t0", 8);
        fault("  h00000 t0", 11);
    }

    @Holds(in = "Section 1", says = "the TEXT's size, if its end comes too early, or there are blanks alone).")
    static void blanksAlone() {
        fault("", 0);
        fault(" ", 1);
        fault(" ".repeat(79), 79);
        fault(" ".repeat(80), 80);
    }

    @Holds(in = "Section 1", says = "(THUMBS, POSTS there may be none.)")
    static void noThumbsNoPosts() {
        fine("h00000");
        fine("h00000 t00");
        fine("h00000 p00001");
        due("no THUMBS", office("h00000 p00001").count(1), 0);
        due("one POST", office("h00000 p00001").count(2), 1);
        due("no POSTS", office("h00000 t00").count(2), 0);
        due("one THUMB", office("h00000 t00").count(1), 1);
    }
}
