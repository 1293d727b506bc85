/** Promises 23 to 29: what thumbs read, whose a reading is, odds, where to look, who is alike. */
final class EdgesOfReadings extends Edge {
    private static ThumbReader reading(String office, int... numbers) {
        ThumbReader x = office(office);
        fill(x, 5, numbers);
        return x;
    }

    /** ROW 0 holds these numbers. */
    private static Made wholeWith(int... numbers) {
        return () -> {
            ThumbReader x = whole();
            fill(x, 0, numbers);
            return x;
        };
    }

    /** What a call of a READING in ROW r finds, each ahead of those behind it. */
    private static void notFour(Numbered call) {
        for (int size : new int[] {0, 1, 3, 5, 40}) {
            finding(wholeWith(new int[size]), size + " numbers", x -> call.on(x, 0), SIZE);
        }
        finding(wholeWith(10, -1, 3), "SIZE ahead of UNLIKE", x -> call.on(x, 0), SIZE);
        finding(wholeWith(1, 2, 3, 4, 10), "SIZE ahead of UNLIKE", x -> call.on(x, 0), SIZE);
    }

    private static void missing(Numbered call) {
        finding(Edge::whole, "never there", x -> call.on(x, 5), NOTHING);
        finding(Edge::tornOnce, "torn", x -> call.on(x, 0), NOTHING);
    }

    private static void outOf0To9(Numbered call) {
        for (int number : new int[] {-1, 10, MIN, MAX}) {
            finding(wholeWith(number, 1, 1, 1), number + " at first", x -> call.on(x, 0), UNLIKE);
            finding(wholeWith(1, number, 1, 1), number + " then", x -> call.on(x, 0), UNLIKE);
            finding(wholeWith(1, 1, number, 1), number + " then", x -> call.on(x, 0), UNLIKE);
            finding(wholeWith(1, 1, 1, number), number + " at last", x -> call.on(x, 0), UNLIKE);
        }
        ThumbReader lowest = wholeWith(0, 0, 0, 0).make();
        due("0 is no FINDING of it", call.on(lowest, 0) == FINDING && lowest.finding() == UNLIKE ? 1 : 0, 0);
        ThumbReader highest = wholeWith(9, 9, 9, 9).make();
        due("9 is no FINDING of it", call.on(highest, 0) == FINDING && highest.finding() == UNLIKE ? 1 : 0, 0);
    }

    @Holds(in = "Promise 23", says = "What a THUMB READS of a HEAD at a PLACE at LEAST; at MOST by asked().")
    static void readsLeastAndMost() {
        ThumbReader x = office("h00000 h12352 t20 c10 d13 l02");
        int[][] least = {{0, 0, 0, 0}, {0, 0, 0, 2}, {1, 0, 0, 0}, {1, 1, 2, 4}, {0, 0, 0, 0}, {0, 0, 0, 2}, {1, 1, 1, 1}, {1, 2, 3, 5}};
        int[][] most = {{2, 2, 2, 2}, {2, 3, 4, 6}, {3, 2, 2, 2}, {3, 3, 4, 6}, {1, 1, 1, 1}, {1, 1, 2, 4}, {1, 1, 1, 1}, {1, 2, 3, 5}};
        for (int t = 0; t < 4; t++) {
            for (int h = 0; h < 2; h++) {
                for (int place = 0; place < 4; place++) {
                    String what = "reads(" + t + ", " + h + ", " + place + ")";
                    both(what, x, x.reads(t, h, place), least[2 * t + h][place], most[2 * t + h][place]);
                }
            }
        }
    }

    @Holds(in = "Promise 23", says = "BAD.")
    static void readsBad() {
        thumbNumber("reads(t, 0, 0)", (x, t) -> x.reads(t, 0, 0));
        headNumber("reads(0, h, 0)", (x, h) -> x.reads(0, h, 0));
        placeNumber("reads(0, 0, place)", (x, place) -> x.reads(0, 0, place));
    }

    @Holds(in = "Promise 24", says = "Whether a READING (a ROW) FITS a HEAD and a THUMB (1, 0).")
    static void fitsOrNot() {
        due("LEASTS and MOSTS", reading("h12340 t10", 0, 3, 2, 5).fits(0, 0, 5), 1);
        due("below at the first PLACE", reading("h22340 t10", 0, 3, 2, 5).fits(0, 0, 5), 0);
        due("above at the last PLACE", reading("h12340 t10", 0, 3, 2, 6).fits(0, 0, 5), 0);
        due("of the second HEAD", reading("h55550 h12340 v00 t10", 0, 3, 2, 5).fits(1, 1, 5), 1);
        due("not of the first HEAD", reading("h55550 h12340 v00 t10", 0, 3, 2, 5).fits(1, 0, 5), 0);
        due("not by the first THUMB", reading("h55550 h12340 v00 t10", 0, 3, 2, 5).fits(0, 1, 5), 0);
    }

    @Holds(in = "Promise 24", says = "BAD")
    static void fitsBad() {
        thumbNumber("fits(t, 0, 0)", (x, t) -> x.fits(t, 0, 0));
        headNumber("fits(0, h, 0)", (x, h) -> x.fits(0, h, 0));
        rowNumber("fits(0, 0, r)", (x, r) -> x.fits(0, 0, r));
    }

    @Holds(in = "Promise 24", says = "NOTHING")
    static void fitsNothing() {
        missing((x, r) -> x.fits(0, 0, r));
    }

    @Holds(in = "Promise 24", says = "SIZE: not four")
    static void fitsNotFour() {
        notFour((x, r) -> x.fits(0, 0, r));
    }

    @Holds(in = "Promise 24", says = "UNLIKE: out of 0 .. 9.")
    static void fitsOutOf0To9() {
        outOf0To9((x, r) -> x.fits(0, 0, r));
    }

    @Holds(in = "Promise 25", says = "Whose HEAD it can be (bits), READ by a THUMB; by whichever THUMB by asked() (bits of HEADS).")
    static void whoseOfAll() {
        String office = "h22220h33330h22230h55550h22220 t00 l00 t10 v00";
        ThumbReader x = reading(office, 3, 3, 3, 3);
        both("by a THUMB", x, x.whose(0, 5), 2, 23);
        both("by a LIGHT one", x, x.whose(1, 5), 17, 23);
        both("by one that errs", x, x.whose(2, 5), 23, 23);
        both("by a HEAVY one", x, x.whose(3, 5), 0, 23);
    }

    @Holds(in = "Promise 25", says = "Whose HEAD it can be (bits), READ by a THUMB; by whichever THUMB by asked() (bits of HEADS).")
    static void whoseOfNobody() {
        ThumbReader x = reading("h22220 h33330 t00", 9, 9, 9, 9);
        both("nobody's", x, x.whose(0, 5), 0, 0);
        ThumbReader y = reading("h44440 h44440 h44440 h44440 h44440 t00", 4, 4, 4, 4);
        both("everybody's", y, y.whose(0, 5), 31, 31);
        ThumbReader z = reading("h44440 h44440 t00 l00", 5, 5, 5, 5);
        both("by the other THUMB alone", z, z.whose(0, 5), 0, 3);
    }

    @Holds(in = "Promise 25", says = "BAD")
    static void whoseBad() {
        thumbNumber("whose(t, 0)", (x, t) -> x.whose(t, 0));
        rowNumber("whose(0, r)", (x, r) -> x.whose(0, r));
    }

    @Holds(in = "Promise 25", says = "NOTHING")
    static void whoseNothing() {
        missing((x, r) -> x.whose(0, r));
    }

    @Holds(in = "Promise 25", says = "SIZE")
    static void whoseNotFour() {
        notFour((x, r) -> x.whose(0, r));
    }

    @Holds(in = "Promise 25", says = "UNLIKE.")
    static void whoseOutOf0To9() {
        outOf0To9((x, r) -> x.whose(0, r));
    }

    @Holds(in = "Promise 26", says = "By which THUMBS (bits) a HEAD can have been READ so.")
    static void whoOfAll() {
        due("all", reading("h22220 t00 t10 v20 l20", 2, 2, 2, 2).who(0, 5), 15);
        due("the first and the last", reading("h22220 t00 v00 l00 t10", 2, 2, 2, 2).who(0, 5), 9);
        due("none", reading("h22220 t00 t10 v20 l20", 9, 9, 9, 9).who(0, 5), 0);
        due("of the second HEAD", reading("h22220 h33330 t00 l00", 3, 3, 3, 3).who(1, 5), 1);
        due("of the first HEAD", reading("h22220 h33330 t00 l00", 3, 3, 3, 3).who(0, 5), 2);
        due("no THUMBS", reading("h22220", 2, 2, 2, 2).who(0, 5), 0);
    }

    @Holds(in = "Promise 26", says = "BAD")
    static void whoBad() {
        headNumber("who(h, 0)", (x, h) -> x.who(h, 0));
        rowNumber("who(0, r)", (x, r) -> x.who(0, r));
    }

    @Holds(in = "Promise 26", says = "NOTHING")
    static void whoNothing() {
        missing((x, r) -> x.who(0, r));
    }

    @Holds(in = "Promise 26", says = "SIZE")
    static void whoNotFour() {
        notFour((x, r) -> x.who(0, r));
    }

    @Holds(in = "Promise 26", says = "UNLIKE.")
    static void whoOutOf0To9() {
        outOf0To9((x, r) -> x.who(0, r));
    }

    @Holds(in = "Promise 27", says = "ODDS that it is a HEAD, READ by a THUMB (all HEADS alike likely ahead, each READING as likely as it is): 1.")
    static void oddsByReadings() {
        // 2 ways to READ a BUMP 0 by ERROR 1, 3 to READ a BUMP 1: 16 READINGS against 81.
        String two = "h00000 h11110 t10";
        odds("the one of 16", reading(two, 1, 1, 1, 1), 0, 81, 97);
        odds("the one of 81", reading(two, 1, 1, 1, 1), 1, 16, 97);
        odds("the one that alone can be", reading(two, 2, 1, 1, 1), 1, 1, 1);
        odds("the one that can't be", reading(two, 2, 1, 1, 1), 0, 0, 1);
        odds("HAIR is no PLACE", reading("h33330 h33331 t10", 3, 3, 3, 3), 0, 1, 2);
        odds("under HAIR it is FELT as the other", reading("h33330 h44443 t10", 3, 3, 3, 3), 1, 1, 2);
        odds("one of five twins", reading("h33330h33330h33330h33330h33330 t20", 1, 2, 3, 5), 4, 1, 5);
    }

    @Holds(in = "Promise 27", says = "ODDS that it is a HEAD, READ by a THUMB (all HEADS alike likely ahead, each READING as likely as it is): 1.")
    static void oddsOfFiveUnlikeHeads() {
        // By ERROR 2 there are 3, 4, 5 ways to READ 0, 1, 2 or more: 81, 625, 256, 300, 144 READINGS.
        String five = "h00000h22220h11110h01220h00110 t20";
        int[] numbers = {0, 1, 2, 2};
        long[] ways = {81, 625, 256, 300, 144};
        java.math.BigInteger all = java.math.BigInteger.ONE;
        for (long way : ways) {
            all = all.multiply(java.math.BigInteger.valueOf(way));
        }
        java.math.BigInteger sum = java.math.BigInteger.ZERO;
        for (long way : ways) {
            sum = sum.add(all.divide(java.math.BigInteger.valueOf(way)));
        }
        for (int h = 0; h < 5; h++) {
            java.math.BigInteger its = all.divide(java.math.BigInteger.valueOf(ways[h]));
            java.math.BigInteger common = its.gcd(sum);
            odds("HEAD " + h, reading(five, numbers), h, its.divide(common).longValueExact(), sum.divide(common).longValueExact());
        }
    }

    private static void odds(String what, ThumbReader x, int h, long upper, long lower) {
        fraction(what, x, x.odds(0, h, 5), upper, lower);
    }

    @Holds(in = "Promise 27", says = "BAD")
    static void oddsBad() {
        thumbNumber("odds(t, 0, 0)", (x, t) -> x.odds(t, 0, 0));
        headNumber("odds(0, h, 0)", (x, h) -> x.odds(0, h, 0));
        rowNumber("odds(0, 0, r)", (x, r) -> x.odds(0, 0, r));
    }

    @Holds(in = "Promise 27", says = "NOTHING")
    static void oddsNothing() {
        missing((x, r) -> x.odds(0, 0, r));
    }

    @Holds(in = "Promise 27", says = "SIZE")
    static void oddsNotFour() {
        notFour((x, r) -> x.odds(0, 0, r));
    }

    @Holds(in = "Promise 27", says = "UNLIKE")
    static void oddsOutOf0To9() {
        outOf0To9((x, r) -> x.odds(0, 0, r));
    }

    @Holds(in = "Promise 27", says = "NOUGHT: it can be nobody's.")
    static void oddsOfNobody() {
        finding(wholeWith(9, 9, 9, 9), "by that THUMB", x -> x.odds(0, 0, 0), NOUGHT);
        finding(() -> reading("h22220 t00 t10", 2, 2, 2, 3), "by the other one it can be", x -> x.odds(0, 0, 5), NOUGHT);
        odds("by the other one it can be", reading("h22220 t10 t00", 2, 2, 2, 3), 0, 1, 1);
    }

    @Holds(in = "Promise 27", says = "(In this order.)")
    static void oddsInThisOrder() {
        bad(Edge::whole, "BAD ahead of NOTHING", x -> x.odds(0, 5, 5));
        bad(Edge::whole, "BAD ahead of NOTHING", x -> x.odds(-1, 0, 5));
        bad(wholeWith(1, 2, 3), "BAD ahead of SIZE", x -> x.odds(4, 0, 0));
        bad(wholeWith(1, 2, 3, 10), "BAD ahead of UNLIKE", x -> x.odds(0, -1, 0));
        bad(wholeWith(9, 9, 9, 9), "BAD ahead of NOUGHT", x -> x.odds(0, 5, 0));
        finding(wholeWith(10, 10, 10), "SIZE ahead of UNLIKE", x -> x.odds(0, 0, 0), SIZE);
        finding(wholeWith(9, 9, 9, 9, 9), "SIZE ahead of NOUGHT", x -> x.odds(0, 0, 0), SIZE);
        finding(wholeWith(9, 9, 9, 10), "UNLIKE ahead of NOUGHT", x -> x.odds(0, 0, 0), UNLIKE);
    }

    private static void look(String office, int place, int pairs) {
        ThumbReader x = office(office);
        both("look of " + office, x, x.look(0), place, pairs);
    }

    @Holds(in = "Promise 28", says = "At which PLACE a THUMB tells HEADS apart most (pairs of HEADS of which what it READS "
        + "there have nothing in common; the first); how many such pairs by asked().")
    static void lookAtEachPlace() {
        look("h10000 h20000 t00", 0, 1);
        look("h01000 h02000 t00", 1, 1);
        look("h00100 h00200 t00", 2, 1);
        look("h00010 h00020 t00", 3, 1);
        look("h00010h00020h00030h00040h00050 t00", 3, 10);
        look("h10000h20000h10000h20000h10020 t00", 0, 6);
    }

    @Holds(in = "Promise 28", says = "nothing in common")
    static void lookNothingInCommon() {
        look("h10000 h30000 t10", 0, 0);
        look("h02300 h05300 t10", 1, 1);
        look("h02300 h04300 t10", 0, 0);
        look("h04300 h02300 t10", 0, 0);
        look("h00050 h00000 t20", 3, 1);
        look("h00040 h00000 t20", 0, 0);
        look("h00010 h00020 v00", 3, 1);
        look("h00010 h00000 v00", 0, 0);
        look("h00012 h00000 t00", 0, 0);
    }

    @Holds(in = "Promise 28", says = "the first")
    static void lookAtTheFirst() {
        look("h11110 h22220 t00", 0, 1);
        look("h01110 h02220 t00", 1, 1);
        look("h12000 h13100 h14200 t00", 1, 3);
        look("h11110 h11110 t00", 0, 0);
        look("h55550 t00", 0, 0);
    }

    @Holds(in = "Promise 28", says = "BAD.")
    static void lookBad() {
        thumbNumber("look(t)", ThumbReader::look);
    }

    @Holds(in = "Promise 29", says = "HEADS that a THUMB may take for a HEAD (some READING FITS both; itself, too; bits).")
    static void alikeToEachOther() {
        ThumbReader x = office("h33330h33350h33310h33340h33330 t10 t00 t20 d00");
        int[][] want = {{31, 27, 21, 27, 31}, {17, 2, 4, 8, 17}, {31, 31, 31, 31, 31}, {17, 10, 4, 10, 17}};
        for (int t = 0; t < 4; t++) {
            for (int h = 0; h < 5; h++) {
                due("alike(" + t + ", " + h + ")", x.alike(t, h), want[t][h]);
            }
        }
    }

    @Holds(in = "Promise 29", says = "HEADS that a THUMB may take for a HEAD")
    static void alikeButForHair() {
        due("HAIR is no PLACE", office("h33330 h33331 t00").alike(0, 0), 3);
        due("under HAIR it is FELT as the other", office("h33330 h44442 h44443 t00").alike(0, 0), 7);
        due("under HAIR it is FELT as another", office("h33330 h33332 t00").alike(0, 0), 1);
    }

    @Holds(in = "Promise 29", says = "itself, too")
    static void alikeToItself() {
        due("the only one", office("h33330 t00").alike(0, 0), 1);
        due("the first", office("h11110 h22220 t00").alike(0, 0), 1);
        due("the last", office("h11110h22220h33330h44440h55550 t00").alike(0, 4), 16);
    }

    @Holds(in = "Promise 29", says = "some READING FITS both")
    static void alikeAtEachPlace() {
        for (int place = 0; place < 4; place++) {
            String head = "h1111".substring(0, 1 + place) + "3" + "1111".substring(place + 1) + "0";
            due("a 2 FITS both at PLACE " + place, office("h11110" + head + "t10").alike(0, 0), 3);
            String far = head.replace('3', '4');
            due("nothing FITS both at PLACE " + place, office("h11110" + far + "t10").alike(0, 0), 1);
            due("nothing FITS both at PLACE " + place, office("h11110" + far + "t10").alike(0, 1), 2);
        }
    }

    @Holds(in = "Promise 29", says = "BAD.")
    static void alikeBad() {
        thumbNumber("alike(t, 0)", (x, t) -> x.alike(t, 0));
        headNumber("alike(0, h)", (x, h) -> x.alike(0, h));
    }
}
