/** Promises 40 to 42: wishes learnt, whether bumps tell anything, lots. */
final class EdgesOfLearnt extends Edge {
    private static final int T = 1, V = 2, L = 4, W = 8, C = 16, D = 32, ALL = 63, ALL_WISHES = 15;

    private static void learn(String office, int error, int kinds, int wishes, int... threes) {
        ThumbReader x = office(office);
        fill(x, 5, threes);
        both("learn of " + office + " " + java.util.Arrays.toString(threes), x, x.learn(5, error), kinds, wishes);
    }

    @Holds(in = "Promise 40", says = "READINGS of HEADS by one unknown THUMB, in a ROW of threes (a HEAD, a PLACE, the number 0 .. 9)")
    static void noneToThirteenThrees() {
        learn("h00000", 0, ALL, ALL_WISHES);
        learn("h33330", 0, T | W, ALL_WISHES, 0, 0, 3);
        learn("h33330", 0, W, 8, 0, 0, 3, 0, 1, 3, 0, 2, 3, 0, 3, 4);
        int[] full = new int[39];
        learn("h00000", 0, T | V | W | D, ALL_WISHES, full);
        full[38] = 1;
        learn("h00000", 0, 0, 0, full);
    }

    @Holds(in = "Promise 40", says = "which KINDS (bits) fit with a told ERROR (0 .. 2) and some WISH")
    static void whichKinds() {
        learn("h33330", 0, V | D, ALL_WISHES, 0, 0, 2);
        learn("h33330", 0, T | W, ALL_WISHES, 0, 0, 3);
        learn("h33330", 0, L | W | C, ALL_WISHES, 0, 0, 4);
        learn("h33330", 0, C, 1, 0, 0, 5);
        learn("h33330", 0, 0, 0, 0, 0, 6);
        learn("h55550", 0, D, ALL_WISHES, 0, 0, 3);
        learn("h55550", 0, V, ALL_WISHES, 0, 0, 4);
        learn("h00000", 0, T | V | W | D, ALL_WISHES, 0, 0, 0);
        learn("h00002", 0, L | W | C, ALL_WISHES, 0, 0, 1);
        learn("h30000h05000h00200h00010h44442", 0, V | D, ALL_WISHES, 4, 3, 2);
    }

    @Holds(in = "Promise 40", says = "which KINDS (bits) fit with a told ERROR (0 .. 2) and some WISH")
    static void withEachError() {
        learn("h33330", 0, 0, 0, 0, 0, 0);
        learn("h33330", 1, 0, 0, 0, 0, 0);
        learn("h33330", 2, V | D, ALL_WISHES, 0, 0, 0);
        learn("h33330", 1, V | D, ALL_WISHES, 0, 0, 1);
        learn("h33330", 2, T | V | W | D, ALL_WISHES, 0, 0, 1);
        learn("h33330", 1, C, 1, 0, 0, 6);
        learn("h33330", 2, L | W | C, ALL_WISHES, 0, 0, 6);
        learn("h33330", 2, C, 1, 0, 0, 7);
        learn("h33330", 2, 0, 0, 0, 0, 8);
        learn("h55550", 2, C, 8, 0, 3, 9);
        learn("h55550", 1, 0, 0, 0, 3, 9);
    }

    @Holds(in = "Promise 40", says = "WISHES (bits) that fit with some KIND by asked().")
    static void whichWishes() {
        for (int place = 0; place < 4; place++) {
            learn("h33330", 0, C, 1 << place, 0, place, 5);
        }
        learn("h33330", 0, C, 2, 0, 0, 4, 0, 1, 5);
        learn("h33330", 0, W, 2, 0, 0, 3, 0, 1, 4);
        learn("h33330", 0, W, 2, 0, 0, 3, 0, 1, 4, 0, 2, 3, 0, 1, 4);
        learn("h33330", 0, L | C, ALL_WISHES, 0, 0, 4, 0, 1, 4);
        learn("h33330", 0, 0, 0, 0, 0, 5, 0, 1, 5);
    }

    private static Made wholeWith(int... places) {
        return () -> {
            ThumbReader x = whole();
            fill(x, 0, places);
            return x;
        };
    }

    @Holds(in = "Promise 40", says = "BAD")
    static void learnBad() {
        rowNumber("learn(r, 0)", (x, r) -> x.learn(r, 0));
        bounds("learn(1, error)", 0, 2, (x, error) -> x.learn(1, error));
        bad(Edge::whole, "BAD ahead of NOTHING", x -> x.learn(5, 3));
        bad(wholeWith(1, 2), "BAD ahead of SIZE", x -> x.learn(0, -1));
        bad(wholeWith(9, 9, 99), "BAD ahead of UNLIKE", x -> x.learn(0, 3));
    }

    @Holds(in = "Promise 40", says = "NOTHING")
    static void learnNothing() {
        finding(Edge::whole, "never there", x -> x.learn(5, 0), NOTHING);
        finding(Edge::tornOnce, "torn", x -> x.learn(0, 0), NOTHING);
    }

    @Holds(in = "Promise 40", says = "SIZE: not by threes")
    static void learnNotByThrees() {
        for (int size : new int[] {1, 2, 4, 5, 38, 40}) {
            finding(wholeWith(new int[size]), size + " places", x -> x.learn(0, 0), SIZE);
        }
        for (int size : new int[] {0, 3, 6, 39}) {
            due(size + " places", wholeWith(new int[size]).make().learn(0, 0) == FINDING ? 1 : 0, 0);
        }
        finding(wholeWith(9, 9, 99, 0), "SIZE ahead of UNLIKE", x -> x.learn(0, 0), SIZE);
    }

    @Holds(in = "Promise 40", says = "UNLIKE.")
    static void learnUnlike() {
        for (int h : new int[] {-1, 5, MIN, MAX}) {
            finding(wholeWith(h, 0, 0), "HEAD " + h, x -> x.learn(0, 0), UNLIKE);
            finding(wholeWith(0, 0, 0, h, 0, 0), "HEAD " + h + " behind", x -> x.learn(0, 0), UNLIKE);
        }
        for (int place : new int[] {-1, 4, MIN, MAX}) {
            finding(wholeWith(0, place, 0), "PLACE " + place, x -> x.learn(0, 0), UNLIKE);
            finding(wholeWith(0, 0, 0, 0, place, 0), "PLACE " + place + " behind", x -> x.learn(0, 0), UNLIKE);
        }
        for (int number : new int[] {-1, 10, MIN, MAX}) {
            finding(wholeWith(0, 0, number), "number " + number, x -> x.learn(0, 2), UNLIKE);
            finding(wholeWith(0, 0, 0, 0, 0, number), "number " + number + " behind", x -> x.learn(0, 2), UNLIKE);
        }
        due("the last of each", wholeWith(4, 3, 9).make().learn(0, 0), 0);
        due("the first of each", wholeWith(0, 0, 0).make().learn(0, 0), 0);
        finding(ThumbReader::new, "no ROW", x -> x.learn(0, 0), NOTHING);
        finding(() -> headless(3), "no HEADS", x -> x.learn(0, 0), UNLIKE);
    }

    private static ThumbReader headless(int size) {
        ThumbReader x = new ThumbReader();
        x.row(0, size);
        return x;
    }

    private static void tells(String office, int places, int pairs, int... fates) {
        ThumbReader x = office(office);
        fill(x, 5, fates);
        both("tells of " + office + " " + java.util.Arrays.toString(fates), x, x.tells(5), places, pairs);
    }

    @Holds(in = "Promise 41", says = "Whether BUMPS tell anything: a ROW, one for each HEAD: 1 (it did well), 0 (not): at which "
        + "PLACE the BUMPS of all who did well are above those of all who did not, each above each (bits)")
    static void eachAboveEach() {
        tells("h10000 h00000", 1, 1, 1, 0);
        tells("h00010 h00000", 8, 1, 1, 0);
        tells("h00010 h00000", 0, 0, 0, 1);
        tells("h11110 h11110", 0, 0, 1, 0);
        tells("h55550 h00000", 15, 1, 1, 0);
        // One of two who did well is not above one of two who did not, at PLACES 1 (as much) and 2 (less).
        tells("h33330 h32130 h22220 h22220", 9, 4, 1, 1, 0, 0);
        tells("h33330 h33330 h22220 h23420", 9, 4, 1, 1, 0, 0);
        tells("h33330h33330h33330h33330h22220", 15, 4, 1, 1, 1, 1, 0);
        tells("h22220h33330h22220h22220h22220", 15, 4, 0, 1, 0, 0, 0);
    }

    @Holds(in = "Promise 41", says = "the BUMPS of all who did well are above those of all who did not")
    static void bumpsNotWhatIsFelt() {
        tells("h33333 h22220", 15, 1, 1, 0);
        tells("h33330 h33333", 0, 0, 1, 0);
        tells("h33333 h33330", 0, 0, 1, 0);
    }

    @Holds(in = "Promise 41", says = "Whether BUMPS tell anything: a ROW, one for each HEAD: 1 (it did well), 0 (not)")
    static void allOrNoneDidWell() {
        tells("h11110 h22220 h33330", 15, 0, 1, 1, 1);
        tells("h11110 h22220 h33330", 15, 0, 0, 0, 0);
        tells("h11110", 15, 0, 1);
        tells("h11110", 15, 0, 0);
        ThumbReader none = headless(0);
        both("no HEADS, an empty ROW", none, none.tells(0), 15, 0);
    }

    @Holds(in = "Promise 41", says = "pairs of HEADS (one who did well, one who did not) in which the first one's BUMPS together are more by asked().")
    static void pairsOfHeads() {
        tells("h50000 h01110", 1, 1, 1, 0);
        tells("h50000 h02210", 1, 0, 1, 0);
        tells("h50000 h02220", 1, 0, 1, 0);
        tells("h50000 h02220", 14, 1, 0, 1);
        // 4, 8, 12 did well, 8, 0 did not: 4 above 0; 8 above 0; 12 above both.
        tells("h11110h22220h33330h22220h00000", 0, 4, 1, 1, 1, 0, 0);
        tells("h22220h22220h00000h00000h11110", 15, 6, 1, 1, 0, 0, 0);
        tells("h00003 h00000", 0, 0, 1, 0);
    }

    @Holds(in = "Promise 41", says = "BAD")
    static void tellsBad() {
        rowNumber("tells(r)", ThumbReader::tells);
    }

    @Holds(in = "Promise 41", says = "NOTHING")
    static void tellsNothing() {
        finding(Edge::whole, "never there", x -> x.tells(5), NOTHING);
        finding(Edge::tornOnce, "torn", x -> x.tells(0), NOTHING);
        finding(ThumbReader::new, "no HEADS, no ROW", x -> x.tells(0), NOTHING);
    }

    @Holds(in = "Promise 41", says = "SIZE")
    static void tellsNotAsManyAsDue() {
        for (int size : new int[] {0, 1, 4, 6, 40}) {
            finding(wholeWith(new int[size]), size + " of 5", x -> x.tells(0), SIZE);
        }
        finding(() -> headless(1), "1 of none", x -> x.tells(0), SIZE);
        finding(wholeWith(2, -1, 2, 2), "SIZE ahead of UNLIKE", x -> x.tells(0), SIZE);
        finding(wholeWith(0, 0, 0, 0, 0, 2), "SIZE ahead of UNLIKE", x -> x.tells(0), SIZE);
    }

    @Holds(in = "Promise 41", says = "UNLIKE.")
    static void tellsUnlike() {
        for (int fate : new int[] {-1, 2, MIN, MAX}) {
            finding(wholeWith(fate, 0, 1, 0, 1), fate + " at first", x -> x.tells(0), UNLIKE);
            finding(wholeWith(0, 1, 0, 1, fate), fate + " at last", x -> x.tells(0), UNLIKE);
        }
    }

    @Holds(in = "Promise 42", says = "n (1 .. 5) HEADS by LOTS of a seed READ by a THUMB")
    static void oneToFiveHeads() {
        bounds("lots(0, n, 7)", 1, 5, (x, n) -> x.lots(0, n, 7));
        for (int n = 1; n <= 5; n++) {
            due("each is alone", office("h00000 h55550 t20").lots(0, n, 7), n);
            due("the only one is alone", office("h33330 t20").lots(0, n, 7), n);
            due("twins never are", office("h33330 h33330 t00").lots(0, n, 7), 0);
        }
    }

    @Holds(in = "Promise 42", says = "for each a number is the HEAD (modulo how many there are), then for each PLACE a number: "
        + "what is READ there (the LEAST, and it modulo how many READINGS there are there)")
    static void lotsOneByOne() {
        for (String office : new String[] {"h00000h11110h22220h00110h33330 t20 v11", "h10000 h02000 h00300 d13 c20"}) {
            for (int seed : new int[] {1, 2, 48271, MAX / 2, MAX - 2, MAX - 1}) {
                for (int t = 0; t < 2; t++) {
                    for (int n = 1; n <= 5; n++) {
                        ThumbReader x = office(office);
                        String what = "lots(" + t + ", " + n + ", " + seed + ") of " + office;
                        due(what, x.lots(t, n, seed), alone(office(office), t, n, seed));
                    }
                }
            }
        }
    }

    /** The same by the calls reads() and whose(). */
    private static int alone(ThumbReader x, int t, int n, int seed) {
        java.math.BigInteger lot = java.math.BigInteger.valueOf(seed);
        int sum = 0;
        for (int i = 0; i < n; i++) {
            lot = next(lot);
            int h = lot.intValue() % x.count(0);
            int[] numbers = new int[4];
            for (int place = 0; place < 4; place++) {
                lot = next(lot);
                int least = x.reads(t, h, place);
                numbers[place] = least + lot.intValue() % (x.asked() - least + 1);
            }
            fill(x, 0, numbers);
            sum += x.whose(t, 0) == 1 << h ? 1 : 0;
        }
        return sum;
    }

    private static java.math.BigInteger next(java.math.BigInteger lot) {
        return lot.multiply(java.math.BigInteger.valueOf(48271)).mod(java.math.BigInteger.valueOf(MAX));
    }

    @Holds(in = "Promise 42", says = "how many of these READINGS FIT that HEAD alone (of all HEADS, by that THUMB).")
    static void thatHeadAlone() {
        // By the second THUMB both are READ as 0: a HEAVY one does not feel a BUMP 1.
        ThumbReader x = office("h00000 h11110 t00 v00");
        due("by the first THUMB", x.lots(0, 5, 3), 5);
        due("by the second THUMB", x.lots(1, 5, 3), 0);
    }

    @Holds(in = "Promise 42", says = "BAD")
    static void lotsBad() {
        thumbNumber("lots(t, 1, 1)", (x, t) -> x.lots(t, 1, 1));
        bounds("lots(0, n, 1)", 1, 5, (x, n) -> x.lots(0, n, 1));
        bounds("lots(0, 1, seed)", 1, MAX - 1, (x, seed) -> x.lots(0, 1, seed));
    }

    @Holds(in = "Promise 42", says = "STATE: no HEADS.")
    static void lotsWithoutHeads() {
        // Without HEADS there is no THUMB either: BAD comes first.
        bad(ThumbReader::new, "lots(0, 1, 1)", x -> x.lots(0, 1, 1));
        bad(ThumbReader::new, "lots(0, 6, 0)", x -> x.lots(0, 6, 0));
    }
}
