/** A first office: it is written, read, padded, given posts, and asked what it can't answer. */
public final class Example {
    public static void main(String[] args) {
        ThumbReader x = new ThumbReader();

        // Two HEADS, a THUMB of ERROR 1, two POSTS. A TEXT has room for 80 signs.
        String signs = "h13520 h44411 t10 p23105 p33309";
        x.text(0, signs.length());
        for (int i = 0; i < signs.length(); i++) {
            x.put(0, i, signs.charAt(i));
        }
        System.out.println("a FAULT? " + (x.fault(0) != ThumbReader.NONE));
        System.out.println("HEADS: " + x.office(0));

        // An answer that is more than one number: the rest is told by asked(), a fraction by upper(), lower().
        System.out.println("THUMB 0 READS of HEAD 1 at PLACE 2 from " + x.reads(0, 1, 2) + " to " + x.asked());
        System.out.println("HEAD 1 SUITS POST 0: " + x.suits(0, 1, 0));
        System.out.println("HEAD 0 SUITS POST 0: " + x.suits(0, 0, 0));
        x.luck(0, 0, 0);
        System.out.println("ODDS that it is READ so: " + x.upper() + " by " + x.lower());

        // An answer that is a row comes to a ROW, which at() tells place by place.
        System.out.println("PADS that HEAD 0 needs for POST 0: " + x.pads(0, 0, 0, 3) + ", by PLACES" + row(x, 3, 4));
        System.out.println("PAY of the best PLAN: " + x.plan(0, 4) + ", POSTS by HEADS" + row(x, 4, 2));

        x.keep(0);
        x.pad(0, 0);
        x.pad(0, 0);
        x.pad(0, 1);
        System.out.println("PAY behind " + x.count(3) + " DEEDS: " + x.plan(0, 4) + ", POSTS by HEADS" + row(x, 4, 2));
        System.out.println("DEEDS of the OFFICE that was kept: " + x.on(0));

        // A call that is refused answers so, and changes nothing but finding(), findings().
        System.out.println("PLACE 9 of a HEAD is BAD: " + (x.reads(0, 0, 9) == ThumbReader.BAD));
        System.out.println("ROW 5 is missing: " + (x.at(5, 0) == ThumbReader.FINDING) + ", FINDING " + x.finding());
    }

    private static String row(ThumbReader x, int r, int size) {
        StringBuilder told = new StringBuilder();
        for (int i = 0; i < size; i++) {
            x.at(r, i);
            told.append(' ').append(x.asked());
        }
        return told.toString();
    }
}
