/** Promises 36 to 39: the best plan, how many, the safest, what a pad gains. */
public final class PlansTest {
    public static void main(String[] args) {
        plan();
        firstOfAlike();
        plans();
        safest();
        gain();
        refused();
        Check.end();
    }

    private static void plan() {
        // HEAD 0 suits POSTS 0 and 1, HEAD 1 suits POST 0 alone, HEAD 2 none.
        ThumbReader x = Check.office("h44000 h40000 h00000 t00 p30005 p33004 p00558");
        Check.due("plan(0, 2)", x.plan(0, 2), 9);
        Check.rowIs("plan(0, 2)", x, 2, 1, 0, Check.NONE);
        Check.fill(x, 2, 1, 1, 1, 1, 1);
        Check.due("the ROW is there anew", x.plan(0, 2), 9);
        Check.rowIs("the ROW is there anew", x, 2, 1, 0, Check.NONE);
        ThumbReader none = Check.office("h44000 h40000 t00");
        Check.due("no POSTS", none.plan(0, 0), 0);
        Check.rowIs("no POSTS", none, 0, Check.NONE, Check.NONE);
        ThumbReader luck = Check.office("h44000 t10 p40005");
        Check.due("LUCK is not enough", luck.plan(0, 0), 0);
        Check.rowIs("LUCK is not enough", luck, 0, Check.NONE);
    }

    private static void firstOfAlike() {
        ThumbReader x = Check.office("h55550 h55550 h55550 t00 p00003 p00003");
        Check.due("alike ones", x.plan(0, 0), 6);
        Check.rowIs("the first: POSTS ahead of NONE", x, 0, 0, 1, Check.NONE);
        ThumbReader y = Check.office("h55550 h55550 t00 p00003 p00005 p00005");
        Check.due("alike ones of three", y.plan(0, 0), 10);
        Check.rowIs("alike ones of three", y, 0, 1, 2);
    }

    private static void plans() {
        ThumbReader most = Check.office("h00000h00000h00000h00000h00000 t00 p00001p00001p00001p00001");
        Check.fraction("five HEADS, four POSTS", most, most.plans(0), 501, 1);
        ThumbReader one = Check.office("h00000 t00 p10001");
        Check.fraction("none but the empty one", one, one.plans(0), 1, 1);
        ThumbReader two = Check.office("h00000 h10000 t00 p10001 p00001");
        Check.fraction("two by two, one pair not", two, two.plans(0), 5, 1);
        Check.due("plans() does not change asked()", two.asked(), 0);
    }

    private static void safest() {
        ThumbReader x = Check.office("h44000 h40000 t00 v00 p30005 p04009");
        Check.due("by the first THUMB", x.plan(0, 1), 14);
        Check.due("by both", x.safest(1), 5);
        Check.rowIs("by both", x, 1, 0, Check.NONE);
        ThumbReader first = Check.office("h44000 h40000 v00 t00 p30005 p04009");
        Check.due("the first THUMB is the stricter one", first.safest(1), 5);
        ThumbReader none = Check.office("h00000 h00000 p66669");
        Check.due("without THUMBS each PLAN is one by all", none.safest(1), 9);
        Check.rowIs("without THUMBS", none, 1, 0, Check.NONE);
        ThumbReader more = Check.office("h00000 h00000 p66669 p66661 p66665 p66668");
        Check.due("without THUMBS, four POSTS", more.safest(1), 17);
        Check.rowIs("without THUMBS, four POSTS", more, 1, 0, 3);
    }

    private static void gain() {
        ThumbReader x = Check.office("h33000 h00000 t00 p30002 p04005 p40009");
        Check.both("at PLACE 0 by 7", x, x.gain(0, 0), 7, 0);
        ThumbReader y = Check.office("h33330 t00 p00042 p00402 p30001");
        Check.both("the first of alike ones", y, y.gain(0, 0), 1, 2);
        ThumbReader z = Check.office("h55550 t00 p66669");
        z.reads(0, 0, 0);
        Check.unchanged("5 is not PADDED", z, () -> z.gain(0, 0), Check.NONE);
        ThumbReader twice = Check.office("h33330 t00 p50009 p44008");
        Check.unchanged("one PAD is not enough", twice, () -> twice.gain(0, 0), Check.NONE);
        ThumbReader light = Check.office("h45550 l00 p66669");
        Check.both("from 4 to 5", light, light.gain(0, 0), 9, 0);
        Check.due("it is not done", light.count(4), 19);
        Check.unchanged("gain: no other HEAD", light, () -> light.gain(0, 1), Check.BAD);
        ThumbReader other = Check.office("h33330 h33330 t00 p30002 p33338 p44444");
        Check.unchanged("both suit already, no more is to be had", other, () -> other.gain(0, 0), Check.NONE);
    }

    private static void refused() {
        ThumbReader none = new ThumbReader();
        Check.unchanged("plan(0, 0) without THUMBS", none, () -> none.plan(0, 0), Check.BAD);
        Check.unchanged("safest(0) without HEADS", none, () -> none.safest(0), Check.STATE);
        Check.unchanged("safest(6) without HEADS", none, () -> none.safest(6), Check.BAD);
        ThumbReader x = Check.office("h33330 t00 p30002");
        for (int bad : new int[] {-1, 1}) {
            Check.unchanged("plan by THUMB " + bad, x, () -> x.plan(bad, 0), Check.BAD);
            Check.unchanged("plans by THUMB " + bad, x, () -> x.plans(bad), Check.BAD);
            Check.unchanged("gain by THUMB " + bad, x, () -> x.gain(bad, 0), Check.BAD);
            Check.unchanged("gain of HEAD " + bad, x, () -> x.gain(0, bad), Check.BAD);
        }
        for (int bad : new int[] {-1, 6}) {
            Check.unchanged("plan to ROW " + bad, x, () -> x.plan(0, bad), Check.BAD);
            Check.unchanged("safest to ROW " + bad, x, () -> x.safest(bad), Check.BAD);
        }
    }
}
