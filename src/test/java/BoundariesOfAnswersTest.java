/** What is asked: each sentence of the terms III and of promises 1, 6 to 23, 32 to 35 that names a boundary, on both sides of it. */
public final class BoundariesOfAnswersTest {
    private static final int NONE = KilnBench.NONE;
    private static final int ALL_HEATS = (1 << 21) - 1;
    private static final int LEAST = Integer.MIN_VALUE;
    private static final int MOST = Integer.MAX_VALUE;

    public static void main(String[] args) {
        newObject();
        has();
        letter();
        child();
        kiln();
        place();
        rings();
        cracks();
        heats();
        weekOfNow();
        safe();
        best();
        bestThatIsSafe();
        bestOfLikeOnes();
        brothers();
        ahead();
        fired();
        fuel();
        later();
        odds();
        see();
        seen();
        telling();
        tells();
        image();
        octet();
        on();
        onRefused();
        onKeepsNothing();
        status();
        Sentence.haveBeen(1, 1);
        Sentence.haveBeen(6, 23);
        Sentence.haveBeen(32, 35);
        Sentence.finish("BoundariesOfAnswersTest");
    }

    private static void due(String what, long want, long got) {
        Sentence.due(what, want, got);
    }

    private static void due(String what, boolean want, boolean got) {
        Sentence.due(what, want, got);
    }

    private static void goTo(KilnBench x, int week) {
        int[] image = Check.image(x);
        image[0] = week >> 8;
        image[1] = week & 255;
        Check.due("an image of week " + week, 1, Check.on(x, Check.sealed(image)));
    }

    /** As many children as told, p and on, their clay their number, and three kilns of 6, 2, 1 places. */
    private static String town(int children, String more) {
        StringBuilder text = new StringBuilder("kiln k room 6;kiln l room 2;kiln m room 1;" + more);
        for (int c = 0; c < children; c++) {
            text.append("child ").append((char) ('p' + c)).append(" clay ").append(c).append(" grit ").append(c).append(";");
        }
        return text.toString();
    }

    // ---- promises 1, 6 to 10

    private static void newObject() {
        Sentence.of(1, "No CHILDREN, no KILNS; the seed is 1.");
        KilnBench x = new KilnBench();
        for (int what = 0; what <= 10; what++) {
            due("has " + what, 0, x.has(what));
        }
        due("seed", 1, x.has(11));
        due("no child", NONE, x.child(0, 0));
        due("no kiln", NONE, x.kiln(0, 0));
        due("an image without both", 5, x.image());
        due("no week is kept from going by", 0, x.weeks(40));
        due("NONE", -1, KilnBench.NONE);
    }

    private static void has() {
        Sentence.of(6, "How many there are: 0 CHILDREN, 1 KILNS, 2 WEEK, 3 fuel, 4 CHILDREN in KILNS, 5 FIRED, 6 CRACKED, 7 KILNS that are lit, "
            + "8 told as KEPT, 9 rows SEEN, 10 ACTS that can be undone, 11 the seed.");
        KilnBench x = Check.made(town(8, "cracks clay>1;fuel 999;load 999;"));
        due("children, all", 8, x.has(0));
        due("kilns, all", 3, x.has(1));
        for (int c = 0; c < 6; c++) {
            x.set(c, 0, c);
        }
        x.set(6, 1, 1);
        x.set(7, 2, 0);
        due("in kilns, all", 8, x.has(4));
        for (int k = 0; k < 3; k++) {
            x.light(k, 0);
            due("lit", k + 1, x.has(7));
        }
        Check.see(x, new int[48]);
        due("seen, the most", 16, x.has(9));
        x.weeks(1);
        int[] then = {8, 3, 1, 1998, 0, 8, 6, 0, 3, 16, 12, 1};
        for (int what = 0; what < then.length; what++) {
            due("then " + what, then[what], x.has(what));
        }
        for (int k = 0; k < 24; k++) {
            x.weeks(40);
        }
        x.weeks(38);
        x.seed(MOST);
        int[] last = {8, 3, 999, 9999, 0, 8, 6, 0, 3, 16, 20, MOST};
        for (int what = 0; what < last.length; what++) {
            due("at last " + what, last[what], x.has(what));
        }
        Sentence.of(6, "NONE for others.");
        for (int what : new int[] {-1, 12, 13, LEAST, MOST}) {
            due("what " + what, NONE, x.has(what));
        }
    }

    private static void letter() {
        Sentence.of(7, "Letter k (0 .. 5) of the NAME of a CHILD (kind 0), a KILN (1): 1 .. 26; 0 behind it");
        KilnBench x = Check.made("child a clay 1 grit 1;child zazazz clay 1 grit 1;kiln z room 1;kiln aaaaaz room 1;kiln aaaaa room 1;");
        int[][] children = {{1, 0, 0, 0, 0, 0}, {26, 1, 26, 1, 26, 26}};
        int[][] kilns = {{26, 0, 0, 0, 0, 0}, {1, 1, 1, 1, 1, 26}, {1, 1, 1, 1, 1, 0}};
        for (int k = 0; k < 6; k++) {
            for (int c = 0; c < 2; c++) {
                due("letter " + k + " of child " + c, children[c][k], x.letter(0, c, k));
            }
            for (int c = 0; c < 3; c++) {
                due("letter " + k + " of kiln " + c, kilns[c][k], x.letter(1, c, k));
            }
        }
        Sentence.of(7, "NONE when there is none such.");
        int[][] wrong = {{0, 0, -1}, {0, 0, 6}, {1, 0, -1}, {1, 0, 6}, {0, -1, 0}, {0, 2, 0}, {1, -1, 0}, {1, 3, 0}, {-1, 0, 0}, {2, 0, 0},
            {0, 0, MOST}, {0, 0, LEAST}, {0, MOST, 0}, {1, LEAST, 0}, {MOST, 0, 0}, {LEAST, 0, 0}};
        for (int[] w : wrong) {
            due(w[0] + " " + w[1] + " " + w[2], NONE, x.letter(w[0], w[1], w[2]));
        }
        due("none at first", NONE, new KilnBench().letter(0, 0, 0));
    }

    private static void childDue(String what, KilnBench x, int child, int... want) {
        for (int k = 0; k < want.length; k++) {
            due(what + " " + k, want[k], x.child(child, k));
        }
    }

    private static void child() {
        Sentence.of(8, "Of a CHILD: 0 clay, 1 grit, 2 its KILN, 3 its PLACE (NONE each), 4 whether FIRED, 5 its temper (NONE: RAW), 6 whether CRACKED.");
        KilnBench x = Check.made(town(8, "cracks clay=7;"));
        childDue("raw", x, 7, 7, 7, NONE, NONE, 0, NONE, 0);
        x.set(7, 0, 5);
        childDue("set", x, 7, 7, 7, 0, 5, 0, NONE, 0);
        x.set(7, 2, 0);
        childDue("set to the last kiln", x, 7, 7, 7, 2, 0, 0, NONE, 0);
        x.set(0, 0, 0);
        x.light(2, 0);
        x.light(0, 0);
        x.weeks(1);
        childDue("fired and cracked", x, 7, 7, 7, NONE, NONE, 1, 0, 1);
        childDue("fired and whole", x, 0, 0, 0, NONE, NONE, 1, 0, 0);
        Sentence.of(8, "NONE when there is none such, or for others.");
        for (int other : new int[] {-1, 8, MOST, LEAST}) {
            due("child " + other, NONE, x.child(other, 0));
            due("whether fired is " + other, NONE, x.child(other, 4));
        }
        for (int other : new int[] {-1, 7, 8, MOST, LEAST}) {
            due("what " + other, NONE, x.child(0, other));
        }
        due("none at first", NONE, new KilnBench().child(0, 4));
    }

    private static void kiln() {
        Sentence.of(9, "Of a KILN: 0 how many PLACES, 1 how many CHILDREN, 2 the heat to which it is lit (NONE), 3 what it would burn (NONE: not lit).");
        KilnBench x = Check.made(town(8, "burns 100*full+heat-7;"));
        int[] room = {6, 2, 1};
        for (int k = 0; k < 3; k++) {
            due("places of " + k, room[k], x.kiln(k, 0));
            due("empty", 0, x.kiln(k, 1));
            due("not lit", NONE, x.kiln(k, 2));
            due("burns nothing", NONE, x.kiln(k, 3));
        }
        x.light(2, 0);
        due("lit to 0", 0, x.kiln(2, 2));
        due("would burn 0 at least", 0, x.kiln(2, 3));
        x.light(2, 20);
        due("lit to 20", 20, x.kiln(2, 2));
        due("would burn, empty", 13, x.kiln(2, 3));
        x.set(0, 2, 0);
        due("one", 1, x.kiln(2, 1));
        due("would burn, full", 113, x.kiln(2, 3));
        for (int c = 0; c < 6; c++) {
            x.set(c, 0, c);
        }
        due("six", 6, x.kiln(0, 1));
        due("full, but not lit", NONE, x.kiln(0, 3));
        due("empty again", 0, x.kiln(2, 1));
        x.light(2, NONE);
        due("put out", NONE, x.kiln(2, 3));
        Sentence.of(9, "NONE when there is none such, or for others.");
        for (int other : new int[] {-1, 3, MOST, LEAST}) {
            due("kiln " + other, NONE, x.kiln(other, 0));
            due("children of " + other, NONE, x.kiln(other, 1));
        }
        for (int other : new int[] {-1, 4, MOST, LEAST}) {
            due("what " + other, NONE, x.kiln(0, other));
        }
        due("none at first", NONE, new KilnBench().kiln(0, 1));
    }

    private static void place() {
        Sentence.of(10, "Who is in a PLACE of a KILN; NONE when nobody is, or there is none such.");
        KilnBench x = Check.made(town(8, ""));
        x.set(7, 0, 5);
        x.set(0, 0, 0);
        x.set(3, 2, 0);
        due("the last place", 7, x.place(0, 5));
        due("the first place", 0, x.place(0, 0));
        due("of the last kiln", 3, x.place(2, 0));
        due("nobody", NONE, x.place(0, 1));
        due("nobody in another kiln", NONE, x.place(1, 0));
        int[][] wrong = {{0, 6}, {0, -1}, {1, 2}, {2, 1}, {3, 0}, {-1, 0}, {-1, -1}, {0, MOST}, {0, LEAST}, {MOST, 0}, {LEAST, 0}};
        for (int[] w : wrong) {
            due(w[0] + " " + w[1], NONE, x.place(w[0], w[1]));
        }
        due("none at first", NONE, new KilnBench().place(0, 0));
    }

    // ---- promises 11 to 13

    private static final int[][] NO_SUCH_RING = {{-1, 0, 0}, {8, 0, 0}, {0, -1, 0}, {0, 21, 0}, {0, 0, -1}, {0, 0, 6}, {MOST, 0, 0}, {LEAST, 0, 0},
        {0, MOST, 0}, {0, LEAST, 0}, {0, 0, MOST}, {0, 0, LEAST}};

    private static void rings() {
        Sentence.of(11, "The temper of a CHILD (RAW or not) by a heat (0 .. 20), a PLACE (0 .. 5)");
        KilnBench x = Check.made(town(8, "temper heat+place*10+clay;fuel 9;"));
        due("least", 0, x.rings(0, 0, 0));
        due("greatest heat", 20, x.rings(0, 20, 0));
        due("last place", 50, x.rings(0, 0, 5));
        due("last child", 77, x.rings(7, 20, 5));
        x.set(7, 2, 0);
        due("a place of no kiln", 77, x.rings(7, 20, 5));
        x.light(2, 9);
        x.weeks(1);
        due("not raw", 77, x.rings(7, 20, 5));
        due("its own temper stays", 16, x.child(7, 5));
        Sentence.of(11, "NONE when there are none such.");
        for (int[] w : NO_SUCH_RING) {
            due(w[0] + " " + w[1] + " " + w[2], NONE, x.rings(w[0], w[1], w[2]));
        }
        due("none at first", NONE, new KilnBench().rings(0, 0, 0));
    }

    private static void cracks() {
        Sentence.of(12, "Whether it CRACKS by these: 1 or 0; NONE likewise.");
        KilnBench x = Check.made(town(8, "temper heat;cracks rings+place+clay=32 or rings+place+clay=0;fuel 99;"));
        due("least", 1, x.cracks(0, 0, 0));
        due("one more", 0, x.cracks(0, 1, 0));
        due("greatest", 1, x.cracks(7, 20, 5));
        due("one less", 0, x.cracks(7, 19, 5));
        x.set(7, 0, 5);
        x.light(0, 20);
        x.weeks(1);
        due("not raw", 1, x.cracks(7, 20, 5));
        for (int[] w : NO_SUCH_RING) {
            due(w[0] + " " + w[1] + " " + w[2], NONE, x.cracks(w[0], w[1], w[2]));
        }
        due("none at first", NONE, new KilnBench().cracks(0, 0, 0));
    }

    private static void heats() {
        Sentence.of(13, "Heats (0 .. 20) by which a CHILD comes out of a PLACE with a temper no less than least, no more than most, and does not CRACK, as bits");
        KilnBench x = Check.made(town(8, "temper heat*5;cracks heat=7 or heat=20 and place=5;"));
        due("all but one", ALL_HEATS & ~(1 << 7), x.heats(0, 0, 0, 99));
        due("the last place", ALL_HEATS & ~(1 << 7 | 1 << 20), x.heats(7, 5, 0, 99));
        due("from 10 to 15", 1 << 2 | 1 << 3, x.heats(0, 0, 10, 15));
        due("from 11 to 14", 0, x.heats(0, 0, 11, 14));
        due("from 9 to 16", 1 << 2 | 1 << 3, x.heats(0, 0, 9, 16));
        due("no more than 0", 1, x.heats(0, 0, 0, 0));
        due("99 is 20 times 5", 1 << 20, x.heats(0, 0, 99, 99));
        due("from 100 on", 0, x.heats(0, 0, 100, MOST));
        due("below 0", 0, x.heats(0, 0, LEAST, -1));
        due("cracks", 0, x.heats(0, 0, 35, 35));
        due("least above most", 0, x.heats(0, 0, 15, 10));
        due("all there are", ALL_HEATS & ~(1 << 7), x.heats(0, 0, LEAST, MOST));
        due("turned about", 0, x.heats(0, 0, MOST, LEAST));
        Sentence.of(13, "NONE when there are none such.");
        int[][] wrong = {{-1, 0}, {8, 0}, {0, -1}, {0, 6}, {MOST, 0}, {LEAST, 0}, {0, MOST}, {0, LEAST}};
        for (int[] w : wrong) {
            due(w[0] + " " + w[1], NONE, x.heats(w[0], w[1], 0, 99));
        }
        due("none at first", NONE, new KilnBench().heats(0, 0, 0, 99));
    }

    private static void weekOfNow() {
        Sentence.ofTerms("What is told of now is by the WEEK of now.");
        KilnBench x = Check.made(town(2, "temper week/10+heat-heat;cracks week>500 and heat>week%20;sticks week=999;burns week;"));
        x.set(0, 0, 0);
        x.light(0, 5);
        int[][] byWeek = {{0, 0, 0, 20, 20}, {500, 50, 0, 20, 20}, {501, 50, 1, 1, 1}, {999, 99, 1, 19, 19}};
        for (int[] b : byWeek) {
            goTo(x, b[0]);
            due("rings in week " + b[0], b[1], x.rings(0, 20, 0));
            due("cracks in week " + b[0], b[2], x.cracks(0, 20, 0));
            due("heats in week " + b[0], (1 << b[3] + 1) - 1, x.heats(0, 0, 0, 99));
            due("safe in week " + b[0], b[4], x.safe(0));
            due("best in week " + b[0], b[1], x.best(0, 1));
            due("burns in week " + b[0], b[0], x.kiln(0, 3));
            Check.see(x, 0, 0, b[1]);
            due("seen in week " + b[0], ALL_HEATS, x.seen());
        }
        x.set(1, 0, 1);
        due("these stick in week 999", NONE, x.safe(0));
    }

    // ---- promises 14 to 16

    private static void safe() {
        Sentence.ofTerms("SAFE is the greatest heat by which of a KILN, as it is set, none CRACKS, none STICK.");
        KilnBench x = Check.made(town(3, "temper 50;cracks heat>10+grit*4 or heat=9;sticks heat>12 and grits=3;"));
        x.set(0, 0, 0);
        due("the first", 10, x.safe(0));
        x.take(0);
        x.set(1, 0, 0);
        due("the second", 14, x.safe(0));
        x.set(2, 0, 2);
        due("not next to one another", 14, x.safe(0));
        x.set(2, 0, 1);
        due("next to one another", 12, x.safe(0));
        x.set(0, 0, 2);
        due("with the first", 10, x.safe(0));
        Check.town(x, town(3, "cracks heat<20;"));
        x.set(0, 0, 5);
        due("the greatest alone", 20, x.safe(0));
        Check.town(x, town(3, "cracks heat>0;"));
        x.set(0, 0, 5);
        due("the least alone", 0, x.safe(0));
        Check.town(x, town(3, "cracks not heat=3 and not heat=8;"));
        x.set(0, 0, 5);
        due("the greater of two", 8, x.safe(0));
        for (int turned = 0; turned < 2; turned++) {
            Check.town(x, town(3, "temper clay*heat+20;sticks near>12;"));
            x.set(1, 0, 2 + turned);
            x.set(2, 0, 3 - turned);
            due("until they differ too much", 12, x.safe(0));
            x.set(0, 0, 4);
            due("the one behind these too", turned == 0 ? 6 : 12, x.safe(0));
        }
        Sentence.of(14, "SAFE for a KILN; NONE without one, with nobody in it, or when there is none such.");
        Check.town(x, town(3, "cracks clay=1;sticks all;"));
        due("nobody", NONE, x.safe(0));
        x.set(0, 0, 0);
        due("somebody", 20, x.safe(0));
        due("nobody in the next", NONE, x.safe(1));
        x.set(1, 0, 5);
        due("one that cracks by any", NONE, x.safe(0));
        x.take(1);
        x.set(2, 0, 1);
        due("two that stick by any", NONE, x.safe(0));
        x.set(2, 2, 0);
        due("the last kiln", 20, x.safe(2));
        for (int other : new int[] {-1, 3, MOST, LEAST}) {
            due("kiln " + other, NONE, x.safe(other));
        }
        due("none at first", NONE, new KilnBench().safe(0));
    }

    private static void bestDue(String what, KilnBench x, int kiln, int... want) {
        for (int k = 0; k < want.length; k++) {
            due(what + " " + k, want[k], x.best(kiln, k));
        }
    }

    private static void best() {
        Sentence.of(15, "BEST for a KILN: the heat (what 0), the sum of tempers (1), the CHILD (NONE) in PLACE k (what 2 + k).");
        KilnBench x = Check.made(town(8, "temper heat+clay*place;cracks heat>11;"));
        for (int c = 2; c < 8; c++) {
            x.set(c, 0, 7 - c);
        }
        bestDue("full", x, 0, 11, 66 + 3 + 2 * 4 + 3 * 5 + 4 * 6 + 5 * 7, 2, 3, 4, 5, 6, 7);
        x.set(1, 2, 0);
        bestDue("one place", x, 2, 11, 11, 1);
        x.set(0, 1, 0);
        bestDue("a place more", x, 1, 11, 11, NONE, 0);
        Sentence.of(15, "NONE without one, with nobody in it, when there is none such, or for others.");
        KilnBench y = Check.made(town(3, "cracks clay=1;sticks all;"));
        bestDue("nobody", y, 0, NONE, NONE, NONE, NONE, NONE, NONE, NONE, NONE);
        y.set(0, 0, 3);
        bestDue("somebody", y, 0, 20, 80, NONE, NONE, NONE, NONE, NONE, 0);
        for (int other : new int[] {-1, 8, 9, MOST, LEAST}) {
            due("what " + other, NONE, y.best(0, other));
        }
        y.set(1, 0, 5);
        bestDue("one that cracks", y, 0, NONE, NONE, NONE, NONE, NONE, NONE, NONE, NONE);
        y.set(0, 1, 0);
        y.set(2, 1, 1);
        bestDue("two that stick and have no place between", y, 1, NONE, NONE, NONE, NONE);
        y.set(2, 2, 0);
        bestDue("the last kiln", y, 2, 20, 80, 2);
        due("no second place there", NONE, y.best(2, 3));
        for (int other : new int[] {-1, 3, MOST, LEAST}) {
            due("kiln " + other, NONE, y.best(other, 0));
        }
        due("none at first", NONE, new KilnBench().best(0, 0));
    }

    private static void bestThatIsSafe() {
        Sentence.ofTerms("BEST is a heat, and a row of the CHILDREN in a KILN, or none, for each of its PLACES, by which none CRACKS, none STICK:");
        KilnBench x = Check.made(town(3, "temper heat;cracks heat>10 and place<5 or heat>15;"));
        x.set(0, 0, 0);
        bestDue("the one place where it is whole", x, 0, 15, 15, NONE, NONE, NONE, NONE, NONE, 0);
        x.set(1, 0, 1);
        bestDue("a second one has to have its place too", x, 0, 10, 20, NONE, NONE, NONE, NONE, 0, 1);
        Check.town(x, town(3, "temper heat;sticks heat>3;"));
        x.set(0, 1, 0);
        x.set(1, 1, 1);
        bestDue("until they stick", x, 1, 3, 6, 0, 1);
        x.set(1, 0, 0);
        x.set(0, 0, 1);
        bestDue("none sticks apart", x, 0, 20, 40, NONE, NONE, NONE, 0, NONE, 1);
        Check.town(x, town(3, "temper heat+place;sticks near=1 and heat>0 or near=2;"));
        x.set(0, 0, 0);
        x.set(1, 0, 1);
        x.set(2, 0, 2);
        bestDue("two apart, and one place between is enough", x, 0, 20, 60 + 1 + 3 + 5, NONE, 0, NONE, 1, NONE, 2);
    }

    private static void bestOfLikeOnes() {
        Sentence.ofTerms("of the greatest sum of tempers, of like ones the least heat, then the first row (PLACE by PLACE none, then CHILDREN by numbers)");
        KilnBench x = Check.made(town(4, "temper min(heat,6);"));
        x.set(3, 0, 0);
        x.set(1, 0, 1);
        x.set(2, 0, 2);
        bestDue("like heats, like rows", x, 0, 6, 18, NONE, NONE, NONE, 1, 2, 3);
        Check.town(x, town(4, "temper if(heat=4 or heat=17,60,59);"));
        x.set(3, 1, 0);
        x.set(1, 1, 1);
        bestDue("the greater sum ahead of the lesser heat", x, 1, 4, 120, 1, 3);
        Check.town(x, town(4, "temper if(heat=17,61,60);"));
        x.set(3, 1, 0);
        x.set(1, 1, 1);
        bestDue("one more is enough", x, 1, 17, 122, 1, 3);
        Check.town(x, town(4, "temper 99-heat;"));
        x.set(3, 1, 1);
        bestDue("the least heat", x, 1, 0, 99, NONE, 3);
        Check.town(x, town(4, "temper heat-heat;cracks heat<20;"));
        x.set(3, 1, 1);
        bestDue("a sum of 0", x, 1, 20, 0, NONE, 3);
        Check.town(x, town(4, "temper 5+if(place=1 and clay=2,1,0);"));
        x.set(3, 0, 0);
        x.set(2, 0, 1);
        bestDue("by the greater sum to a later row", x, 0, 0, 11, NONE, 2, NONE, NONE, NONE, 3);
        Check.town(x, town(4, "temper 5;sticks all;"));
        x.set(3, 0, 0);
        x.set(2, 0, 1);
        x.set(0, 0, 2);
        bestDue("as late as they can stay apart", x, 0, 0, 15, NONE, 0, NONE, 2, NONE, 3);
        Check.town(x, town(4, "temper 5;sticks grits<4;"));
        x.set(1, 0, 0);
        x.set(2, 0, 1);
        x.set(3, 0, 2);
        bestDue("apart, or beside the one that they don't stick to", x, 0, 0, 15, NONE, NONE, NONE, 1, 3, 2);
    }

    private static void brothers() {
        Sentence.ofTerms("BROTHERS of a FIRED CHILD are all that STICK to it, to these, and so on, and itself (a RAW one has none: 0).");
        KilnBench x = Check.made(town(8, "sticks all;"));
        for (int c = 0; c < 6; c++) {
            x.set(c, 0, (c * 5) % 6);
        }
        x.set(6, 2, 0);
        due("raw in a kiln", 0, x.brothers(0));
        due("raw in none", 0, x.brothers(7));
        x.light(0, 0);
        x.light(2, 0);
        x.weeks(1);
        for (int c = 0; c < 6; c++) {
            due("a chain of six, " + c, 63, x.brothers(c));
        }
        due("alone", 1 << 6, x.brothers(6));
        due("still raw", 0, x.brothers(7));
        // A chain of all eight is told by an image alone.
        int[] chain = new int[4 + 48 + 3 + 1];
        java.util.Arrays.fill(chain, 52, 55, 255);
        int[] order = {3, 0, 7, 1, 6, 2, 5, 4};
        for (int k = 0; k < 8; k++) {
            int at = 4 + 6 * order[k];
            chain[at] = 1;
            chain[at + 1] = 255;
            chain[at + 2] = 255;
            chain[at + 5] = (k > 0 ? 1 << order[k - 1] : 0) | (k < 7 ? 1 << order[k + 1] : 0);
        }
        due("an image of a chain", 1, Check.on(x, Check.sealed(chain)));
        for (int c = 0; c < 8; c++) {
            due("a chain of eight, " + c, 255, x.brothers(c));
        }
        Sentence.of(16, "NONE when there is none such.");
        for (int other : new int[] {-1, 8, MOST, LEAST}) {
            due("child " + other, NONE, x.brothers(other));
        }
        due("none at first", NONE, new KilnBench().brothers(0));
    }

    // ---- promises 17 to 20

    private static void ahead() {
        Sentence.ofTerms("AHEAD are WEEKS as they come from now on without DRAWS (40 at most, not beyond WEEK 999).");
        KilnBench x = Check.made(town(1, "load 1;wind 100;burns 41-week/960;temper heat;"));
        x.set(0, 2, 0);
        x.light(2, 7);
        due("41 behind 40", NONE, x.fired(2));
        due("40 are there then", 40, x.fuel(40));
        due("not 41", NONE, x.fuel(41));
        due("raw then", NONE, x.later(0, 40));
        x.chance(1);
        int seed = x.has(11);
        due("in the last of 40", 39, x.fired(2));
        due("without gusts", 7, x.later(0, 40));
        due("without draws", seed, x.has(11));
        due("nothing has gone by", 1, x.has(2));
        due("no act", 3, x.has(10));
        goTo(x, 960);
        due("to 999, and all is burnt in its last one", 0, x.fuel(39));
        due("not beyond", NONE, x.fuel(40));
        due("fired within", 38, x.fired(2));
        goTo(x, 961);
        due("one week less, one too few", NONE, x.fired(2));
    }

    private static KilnBench waits(int burnt, int week) {
        KilnBench x = Check.made(town(1, "load 1;burns " + burnt + ";"));
        x.set(0, 2, 0);
        x.light(2, 7);
        goTo(x, week);
        return x;
    }

    private static void fired() {
        Sentence.of(17, "In the how manieth WEEK AHEAD (0 .. 39; 0 the next one) a KILN is FIRED; NONE when it is not, or there is none such.");
        int[][] rows = {{0, 0, 0}, {1, 0, 0}, {2, 0, 1}, {40, 0, 39}, {41, 0, NONE}, {0, 999, NONE}, {0, 998, 0}, {1, 998, 0}, {2, 998, NONE}, {2, 997, 1},
            {39, 960, 38}, {40, 960, NONE}, {40, 959, 39}};
        for (int[] r : rows) {
            due("burns " + r[0] + " from week " + r[1] + " on", r[2], waits(r[0], r[1]).fired(2));
        }
        KilnBench x = waits(0, 0);
        due("not lit", NONE, x.fired(1));
        x.light(1, 3);
        due("nobody in it", NONE, x.fired(1));
        x.light(2, NONE);
        due("put out", NONE, x.fired(2));
        x.light(2, 3);
        x.weeks(1);
        due("fired already", NONE, x.fired(2));
        for (int other : new int[] {-1, 3, MOST, LEAST}) {
            due("kiln " + other, NONE, x.fired(other));
        }
        due("none at first", NONE, new KilnBench().fired(0));
    }

    private static void fuel() {
        Sentence.of(18, "The fuel behind n WEEKS AHEAD (0 .. 40); NONE when n can't be.");
        KilnBench x = Check.made("fuel 999;load 300;");
        due("now", 999, x.fuel(0));
        due("the next", 1299, x.fuel(1));
        due("30", 9999, x.fuel(30));
        due("31", 9999, x.fuel(31));
        due("29", 9699, x.fuel(29));
        due("40", 9999, x.fuel(40));
        for (int n : new int[] {-1, 41, 42, MOST, LEAST}) {
            due("n " + n, NONE, x.fuel(n));
        }
        due("it has not come yet", 999, x.has(3));
        int[][] last = {{959, 40, 41}, {960, 39, 40}, {998, 1, 2}, {999, 0, 1}};
        for (int[] l : last) {
            goTo(x, l[0]);
            due("to 999 from " + l[0], Math.min(9999, 999 + 300 * l[1]), x.fuel(l[1]));
            due("beyond from " + l[0], NONE, x.fuel(l[2]));
            due("now in " + l[0], 999, x.fuel(0));
        }
        due("at first", 0, new KilnBench().fuel(0));
        due("at first, 40", 0, new KilnBench().fuel(40));
    }

    private static void later() {
        Sentence.of(19, "The temper of a CHILD behind n WEEKS AHEAD (0 .. 40)");
        KilnBench x = waits(40, 0);
        due("the 40th", 28, x.later(0, 40));
        x.weeks(40);
        due("now", 28, x.later(0, 0));
        due("stays", 28, x.later(0, 40));
        Sentence.of(19, "NONE when it is RAW then, there is none such, or n can't be.");
        KilnBench y = waits(40, 0);
        due("raw now", NONE, y.later(0, 0));
        due("raw behind 39", NONE, y.later(0, 39));
        for (int n : new int[] {-1, 41, MOST, LEAST}) {
            due("n " + n, NONE, x.later(0, n));
        }
        for (int other : new int[] {-1, 1, MOST, LEAST}) {
            due("child " + other, NONE, x.later(other, 0));
        }
        goTo(x, 999);
        due("now, in the last week", 28, x.later(0, 0));
        due("beyond the last week", NONE, x.later(0, 1));
        goTo(x, 960);
        due("to the last week", 28, x.later(0, 39));
        due("beyond it", NONE, x.later(0, 40));
        due("none at first", NONE, new KilnBench().later(0, 0));
    }

    private static KilnBench windy(int wind, int heat, String more) {
        KilnBench x = Check.made(town(2, "wind " + wind + ";fuel 20;" + more));
        x.set(0, 2, 0);
        x.light(2, heat);
        return x;
    }

    private static void odds() {
        Sentence.ofTerms("ODDS of a CHILD in a KILN that is lit are by how many of all rows of a number below 100, one below 3 it CRACKS in the next WEEK by the seed.");
        for (int wind : new int[] {0, 1, 50, 99, 100}) {
            due("never, wind " + wind, 0, windy(wind, 10, "").odds(0));
            due("always, wind " + wind, 300, windy(wind, 10, "cracks all;").odds(0));
            for (int heat = 6; heat <= 11; heat++) {
                int gusts = Math.max(0, Math.min(3, heat - 6));
                int still = heat >= 10 ? (100 - wind) * 3 : 0;
                due("from 10 on by " + heat + ", wind " + wind, still + wind * gusts, windy(wind, heat, "cracks heat>9;").odds(0));
            }
            for (int heat = 16; heat <= 20; heat++) {
                int gusts = Math.min(3, heat - 16);
                int still = heat == 20 ? (100 - wind) * 3 : 0;
                due("20 at most by " + heat + ", wind " + wind, still + wind * gusts, windy(wind, heat, "cracks heat=20;").odds(0));
            }
            due("without a gust alone, wind " + wind, (100 - wind) * 3, windy(wind, 10, "cracks heat=10;").odds(0));
            due("by a gust of 3 alone, wind " + wind, wind, windy(wind, 10, "cracks heat=13;").odds(0));
        }
        due("just enough fuel", 300, windy(0, 20, "cracks all;").odds(0));
        due("too little fuel", 0, windy(0, 20, "cracks all;burns heat+1;").odds(0));
        due("what comes counts", 300, windy(0, 20, "cracks all;burns heat+1;load 1;").odds(0));
        Sentence.of(20, "ODDS of a CHILD (300 rows); NONE when it is not in a KILN that is lit, there is none such, or beyond WEEK 999.");
        KilnBench x = windy(30, 0, "cracks all;");
        due("300 rows", 300, x.odds(0));
        due("in no kiln", NONE, x.odds(1));
        x.set(1, 0, 5);
        due("in one that is not lit", NONE, x.odds(1));
        x.light(0, 0);
        due("in one that is lit", 300, x.odds(1));
        for (int other : new int[] {-1, 2, MOST, LEAST}) {
            due("child " + other, NONE, x.odds(other));
        }
        goTo(x, 998);
        due("the last week", 300, x.odds(0));
        goTo(x, 999);
        due("beyond it", NONE, x.odds(0));
        goTo(x, 0);
        x.weeks(1);
        due("fired", NONE, x.odds(0));
        due("none at first", NONE, new KilnBench().odds(0));
    }

    // ---- promises 21 to 23

    private static void see() {
        Sentence.of(21, "The tape (it goes) tells SEEN, 1 to 16 rows of three bytes: how many rows");
        KilnBench x = Check.made(town(8, ""));
        due("one", 1, Check.see(x, 0, 0, 0));
        due("the tape goes", false, x.end(1));
        due("the greatest", 1, Check.see(x, 7, 5, 99));
        for (int rows = 1; rows <= 16; rows++) {
            due("rows", rows, Check.see(x, new int[3 * rows]));
            due("has", rows, x.has(9));
        }
        due("none refused", 0, x.status(5));
        Sentence.of(21, "NONE, refused (5), when it is none such.");
        int[][] wrong = {{}, {0}, {0, 0}, {0, 0, 0, 0}, {0, 0, 0, 0, 0}, new int[47], new int[49], new int[50], new int[51], {8, 0, 0}, {255, 0, 0},
            {0, 6, 0}, {0, 255, 0}, {0, 0, 100}, {0, 0, 255}, {0, 0, 0, 0, 0, 100}, {0, 0, 0, 8, 0, 0}, {0, 0, 0, 0, 6, 0}};
        for (int k = 0; k < wrong.length; k++) {
            due("wrong " + k, NONE, Check.see(x, wrong[k]));
            due("refused", k + 1, x.status(5));
            due("the tape goes", false, x.end(1));
            due("rows stay", 16, x.has(9));
            due("no act", 0, x.has(10));
        }
        Check.town(x, "kiln k room 1;");
        due("without children", NONE, Check.see(x, 0, 0, 0));
        for (int children = 1; children < 8; children++) {
            Check.town(x, town(children, ""));
            due("the last of " + children, 1, Check.see(x, children - 1, 0, 0));
            due("none behind the last of " + children, NONE, Check.see(x, children, 0, 0));
        }
        Sentence.ofTerms("SEEN are rows of a CHILD, a PLACE (0 .. 5), a temper (0 .. 99): HEATS (0 .. 20) by which, in the WEEK of now, all ring so.");
        KilnBench y = Check.made(town(8, "temper if(place=5,99,heat/clay);"));
        Check.see(y, 7, 5, 99);
        due("all ring so", ALL_HEATS, y.seen());
        Check.see(y, 7, 0, 0);
        due("the least", (1 << 7) - 1, y.seen());
        Check.see(y, 7, 0, 2);
        due("the greatest", (1 << 21) - (1 << 14), y.seen());
        Check.see(y, 7, 0, 2, 4, 0, 4, 1, 0, 17);
        due("one is left", 1 << 17, y.seen());
        Check.see(y, 7, 0, 2, 1, 0, 13);
        due("none is left", 0, y.seen());
        Check.see(y, 1, 0, 0);
        due("0 alone", 1, y.seen());
        Check.see(y, 1, 0, 20);
        due("20 alone", 1 << 20, y.seen());
        Check.see(y, 1, 0, 21);
        due("no heat is 21", 0, y.seen());
    }

    private static void seen() {
        Sentence.of(22, "HEATS by SEEN (of the latest see() of this TOWN that was not refused; all, if there was none), as bits.");
        KilnBench x = Check.made(town(2, "temper heat;"));
        due("all at first", ALL_HEATS, x.seen());
        Check.see(x, 9, 9, 9);
        due("refused at first", ALL_HEATS, x.seen());
        Check.see(x, 0, 0, 3);
        due("by one", 1 << 3, x.seen());
        Check.see(x, 0, 0, 4);
        due("by the latest alone", 1 << 4, x.seen());
        Check.see(x, 0, 0, 5, 0, 0, 100);
        due("not by a refused one", 1 << 4, x.seen());
        x.see();
        due("nor by an empty one", 1 << 4, x.seen());
        x.weeks(1);
        x.undo();
        due("acts and undoing change nothing", 1 << 4, x.seen());
        Check.on(x, Check.image(x));
        due("nor does an image", 1 << 4, x.seen());
        Check.town(x, "bogus");
        due("nor does a fault", 1 << 4, x.seen());
        Check.town(x, town(2, "temper heat;"));
        due("a new town", ALL_HEATS, x.seen());
        due("without a town", ALL_HEATS, new KilnBench().seen());
    }

    private static void tellsDue(String what, KilnBench x, int child, int place, int most) {
        due(what + ", child", child, x.tells(0));
        due(what + ", place", place, x.tells(1));
        due(what + ", most", most, x.tells(2));
    }

    private static void telling() {
        Sentence.ofTerms("TELLING is the CHILD, the PLACE by whose temper, whatever it is, the most HEATS left are fewest; of like ones the first, CHILD by CHILD.");
        tellsDue("all alike", Check.made(town(8, "temper 7;")), 0, 0, 21);
        tellsDue("all tell all", Check.made(town(8, "temper heat;")), 0, 0, 1);
        tellsDue("the last alone", Check.made(town(8, "temper if(clay=7 and place=5,heat,0);")), 7, 5, 1);
        tellsDue("by one fewer", Check.made(town(8, "temper if(clay=6 and place=4 and heat=20,1,0);")), 6, 4, 20);
        tellsDue("the first child ahead of the first place", Check.made(town(8, "temper if(clay=3 and place=5 or clay=4 and place=0,heat,0);")), 3, 5, 1);
        tellsDue("the first place", Check.made(town(8, "temper if(clay=3 and place>2,heat,0);")), 3, 3, 1);
        tellsDue("the fewer of the most", Check.made(town(8, "temper if(clay=1,max(heat-9,0),if(clay=2,heat/3,0));")), 2, 0, 3);
        tellsDue("tempers of 99 and 0", Check.made(town(8, "temper if(clay=2,heat*99-99*10,0);")), 2, 0, 11);
        KilnBench x = Check.made(town(8, "temper if(clay=0,heat/7,if(clay=1,heat%7,heat/5));"));
        tellsDue("by sevens", x, 1, 0, 3);
        Check.see(x, 1, 0, 3);
        tellsDue("of three left", x, 0, 0, 1);
        Check.see(x, 1, 0, 3, 0, 0, 1);
        tellsDue("of one left", x, 0, 0, 1);
    }

    private static void tells() {
        Sentence.of(23, "TELLING: the CHILD (what 0), the PLACE (1), how many HEATS are left at the most (2). NONE without any left, without CHILDREN, or for others.");
        KilnBench x = Check.made(town(8, "temper heat;"));
        for (int other : new int[] {-1, 3, MOST, LEAST}) {
            due("what " + other, NONE, x.tells(other));
        }
        Check.see(x, 0, 0, 20);
        tellsDue("one left", x, 0, 0, 1);
        Check.see(x, 0, 0, 21);
        tellsDue("none left", x, NONE, NONE, NONE);
        Check.town(x, "kiln k room 6;temper heat;");
        tellsDue("no children", x, NONE, NONE, NONE);
        tellsDue("none at first", new KilnBench(), NONE, NONE, NONE);
    }

    // ---- promises 32 to 34

    private static void imageDue(String what, KilnBench x, int... want) {
        Check.sealed(want);
        due(what + ", bytes", want.length, x.image());
        for (int k = 0; k < want.length; k++) {
            due(what + ", byte " + k, want[k], x.octet(k));
        }
        due(what + ", behind it", NONE, x.octet(want.length));
    }

    private static void image() {
        Sentence.ofTerms("AN IMAGE: WEEK, fuel (two bytes each, the higher first)");
        int[][] weeks = {{0, 0, 0}, {255, 0, 255}, {256, 1, 0}, {999, 3, 231}};
        for (int[] w : weeks) {
            KilnBench x = new KilnBench();
            goTo(x, w[0]);
            imageDue("week " + w[0], x, w[1], w[2], 0, 0, 0);
        }
        imageDue("fuel 255", Check.made("fuel 255;"), 0, 0, 0, 255, 0);
        imageDue("fuel 256", Check.made("fuel 256;"), 0, 0, 1, 0, 0);
        KilnBench y = Check.made("fuel 999;load 999;");
        y.weeks(11);
        imageDue("fuel 9999", y, 0, 11, 39, 15, 0);
        Sentence.ofTerms("for each CHILD 0 RAW, 1 FIRED; its KILN (255: none), its PLACE (255: none), its temper (255: RAW), 1 if it CRACKED, else 0, those it STICKS "
            + "to, as bits; for each KILN the heat to which it is lit (255: not)");
        KilnBench z = Check.made("child a clay 1 grit 1;child b clay 2 grit 1;child c clay 3 grit 1;child d clay 4 grit 1;kiln k room 6;kiln l room 1;"
            + "temper if(clay=1,99,0);sticks near<1;cracks clay=2;");
        imageDue("raw", z, 0, 0, 0, 0, 0, 255, 255, 255, 0, 0, 0, 255, 255, 255, 0, 0, 0, 255, 255, 255, 0, 0, 0, 255, 255, 255, 0, 0, 255, 255, 0);
        z.set(0, 0, 2);
        z.set(1, 0, 3);
        z.set(2, 0, 4);
        z.set(3, 1, 0);
        z.light(1, 20);
        imageDue("in kilns", z, 0, 0, 0, 0, 0, 0, 2, 255, 0, 0, 0, 0, 3, 255, 0, 0, 0, 0, 4, 255, 0, 0, 0, 1, 0, 255, 0, 0, 255, 20, 0);
        z.light(0, 0);
        imageDue("lit to 0", z, 0, 0, 0, 0, 0, 0, 2, 255, 0, 0, 0, 0, 3, 255, 0, 0, 0, 0, 4, 255, 0, 0, 0, 1, 0, 255, 0, 0, 0, 20, 0);
        z.weeks(1);
        imageDue("fired", z, 0, 1, 0, 0, 1, 255, 255, 99, 0, 0, 1, 255, 255, 0, 1, 4, 1, 255, 255, 0, 0, 2, 0, 1, 0, 255, 0, 0, 255, 20, 0);
        Sentence.ofTerms("last a byte: all ahead from 241 on, c = (5 c + it) mod 251");
        for (int week = 0; week < 256; week++) {
            KilnBench w = new KilnBench();
            goTo(w, week);
            int check = 241;
            for (int it : new int[] {0, week, 0, 0}) {
                check = (5 * check + it) % 251;
            }
            w.image();
            due("of week " + week, check, w.octet(4));
        }
        Sentence.of(32, "AN IMAGE is written: how many bytes.");
        due("the shortest", 5, new KilnBench().image());
        due("the longest", 56, Check.made(town(8, "")).image());
        due("one child", 11, Check.made("child a clay 1 grit 1;").image());
        due("one kiln", 6, Check.made("kiln k room 1;").image());
        due("no act", 0, Check.made("kiln k room 1;").has(10));
    }

    private static void octet() {
        Sentence.of(33, "Byte k of the latest image(); NONE when there is none such.");
        KilnBench x = Check.made(town(8, "fuel 7;"));
        due("ahead of any", NONE, x.octet(0));
        x.image();
        due("the first", 0, x.octet(0));
        due("the last", true, x.octet(55) != NONE);
        for (int other : new int[] {-1, 56, 57, MOST, LEAST}) {
            due("byte " + other, NONE, x.octet(other));
        }
        x.weeks(1);
        due("of the latest image", 0, x.octet(1));
        x.image();
        due("of a later one", 1, x.octet(1));
        Check.town(x, "fuel 9;");
        due("still the latest", 7, x.octet(3));
        due("as long as it was", 255, x.octet(54));
        x.image();
        due("a shorter one", 9, x.octet(3));
        due("its last byte", true, x.octet(4) != NONE);
        due("behind it", NONE, x.octet(5));
        due("where the longer one was", NONE, x.octet(54));
    }

    private static final String TWO = "child a clay 1 grit 1;child b clay 1 grit 1;child c clay 1 grit 1;kiln k room 3;kiln l room 1;";

    /** Two are fired and stick, the third is raw in the last place of the first kiln. */
    private static int[] goodImage() {
        return Check.sealed(0, 5, 0, 9, 1, 255, 255, 60, 0, 2, 1, 255, 255, 70, 1, 1, 0, 0, 2, 255, 0, 0, 255, 3, 0);
    }

    /** Whether an image is taken in which some bytes are changed: place and byte, one behind the other. */
    private static void onDue(String what, boolean want, int... changes) {
        int[] image = goodImage();
        for (int k = 0; k < changes.length; k += 2) {
            image[changes[k]] = changes[k + 1];
        }
        Check.sealed(image);
        KilnBench x = Check.made(TWO + "fuel 3;");
        x.set(2, 1, 0);
        x.light(1, 20);
        int[] before = Check.image(x);
        due(what, want ? 1 : 0, Check.on(x, image));
        due(what + ", refused", want ? 0 : 1, x.status(5));
        due(what + ", acts", want ? 0 : 2, x.has(10));
        due(what + ", the tape goes", false, x.end(1));
        int[] after = Check.image(x);
        for (int k = 0; k < after.length; k++) {
            due(what + ", byte " + k, want ? image[k] : before[k], after[k]);
        }
    }

    private static void on() {
        Sentence.of(34, "The tape (it goes) is AN IMAGE of this TOWN: true, all is as it tells, nothing is KEPT, no ACT can be undone");
        onDue("as it is", true);
        onDue("all raw, in no kiln", true, 4, 0, 7, 255, 9, 0, 10, 0, 13, 255, 14, 0, 15, 0, 17, 255, 18, 255);
        KilnBench x = Check.made(TWO + "fuel 3;cracks all;");
        x.seed(55);
        x.set(0, 0, 0);
        x.light(0, 0);
        x.weeks(1);
        due("kept", 1, x.has(8));
        due("on", 1, Check.on(x, goodImage()));
        int[] has = {3, 2, 5, 9, 1, 2, 1, 1, 0, 0, 0, 55};
        for (int what = 0; what < has.length; what++) {
            due("has " + what, has[what], x.has(what));
        }
        due("nothing kept", NONE, x.kept(0, 0));
        due("no act", false, x.undo());
        due("brothers", 3, x.brothers(0));
        due("raw again, or fired", 70, x.child(1, 5));
        due("the best of it", NONE, x.best(0, 0));
        Check.town(x, "");
        due("of a town without all", 1, Check.on(x, Check.sealed(3, 231, 39, 15, 0)));
        due("week", 999, x.has(2));
        due("fuel", 9999, x.has(3));
    }

    private static void onRefused() {
        Sentence.of(34, "false, refused (5), all staying, if it is none such");
        KilnBench x = Check.made(TWO + "fuel 3;");
        int[] image = goodImage();
        due("empty", 0, Check.on(x));
        due("one byte", 0, Check.on(x, 0));
        due("one byte less", 0, Check.on(x, java.util.Arrays.copyOf(image, image.length - 1)));
        due("one byte more", 0, Check.on(x, java.util.Arrays.copyOf(image, image.length + 1)));
        due("refused", 4, x.status(5));
        for (int k = 0; k < image.length; k++) {
            int[] wrong = image.clone();
            wrong[k] ^= 1;
            due("byte " + k + " alone changed", 0, Check.on(x, wrong));
        }
        due("refused", 4 + image.length, x.status(5));
        due("all stays", 3, x.has(3));
        due("that image itself", 1, Check.on(x, image));
        KilnBench other = Check.made("child a clay 1 grit 1;kiln k room 1;");
        due("of another town", 0, Check.on(other, image));
        int last = image[image.length - 1];
        image[image.length - 1] = last + 251 < 256 ? last + 251 : last + 1;
        due("a last byte that is not below 251, or one more", 0, Check.on(x, image));
        Sentence.of(34, "(WEEK 999, fuel 9999 at most;");
        onDue("week 999", true, 0, 3, 1, 231);
        onDue("week 1000", false, 0, 3, 1, 232);
        onDue("week 65535", false, 0, 255, 1, 255);
        onDue("week 32768", false, 0, 128, 1, 0);
        onDue("fuel 9999", true, 2, 39, 3, 15);
        onDue("fuel 10000", false, 2, 39, 3, 16);
        onDue("fuel 65535", false, 2, 255, 3, 255);
        onDue("fuel 32768", false, 2, 128, 3, 0);
        Sentence.of(34, "RAW: a PLACE that there is, no two in one, or 255 for both, temper 255, not CRACKED, STUCK to none;");
        onDue("the first place", true, 18, 0);
        onDue("the last place", true, 18, 2);
        onDue("no such place", false, 18, 3);
        onDue("the only place of the other", true, 17, 1, 18, 0);
        onDue("no second one there", false, 17, 1, 18, 1);
        onDue("no such kiln", false, 17, 2, 18, 0);
        onDue("kiln 254", false, 17, 254, 18, 0);
        onDue("place 254", false, 18, 254);
        onDue("255 for both", true, 17, 255, 18, 255);
        onDue("255 for the kiln", false, 17, 255, 18, 0);
        onDue("255 for the place", false, 18, 255);
        onDue("temper 0", false, 19, 0);
        onDue("temper 99", false, 19, 99);
        onDue("temper 254", false, 19, 254);
        onDue("cracked", false, 20, 1);
        onDue("stuck to one", false, 21, 1);
        onDue("stuck to one that sticks to it", false, 21, 1, 9, 6);
        int[] second = {10, 0, 11, 0, 12, 1, 13, 255, 14, 0, 15, 0, 9, 0};
        onDue("two in two places", true, second);
        second[5] = 2;
        onDue("two in one place", false, second);
        KilnBench y = Check.made(town(1, ""));
        due("the last of three kilns", 1, Check.on(y, Check.sealed(0, 0, 0, 0, 0, 2, 0, 255, 0, 0, 255, 255, 255, 0)));
        due("no fourth one", 0, Check.on(y, Check.sealed(0, 0, 0, 0, 0, 3, 0, 255, 0, 0, 255, 255, 255, 0)));
        Sentence.of(34, "FIRED: 255 for both, temper 99 at most, STUCK to FIRED ones that STICK to it, not to itself;");
        onDue("in a kiln", false, 5, 0);
        onDue("in a place", false, 6, 0);
        onDue("in a place that is free", false, 5, 0, 6, 0);
        onDue("temper 0", true, 7, 0);
        onDue("temper 99", true, 7, 99);
        onDue("temper 100", false, 7, 100);
        onDue("temper 254", false, 7, 254);
        onDue("temper 255", false, 7, 255);
        onDue("cracked", true, 8, 1);
        onDue("cracked 2", false, 8, 2);
        onDue("cracked 255", false, 8, 255);
        onDue("neither raw nor fired", false, 4, 2);
        onDue("neither, but 255", false, 4, 255);
        onDue("stuck to none, both", true, 9, 0, 15, 0);
        onDue("stuck to one that does not stick to it", false, 15, 0);
        onDue("not stuck to one that sticks to it", false, 9, 0);
        onDue("stuck to itself", false, 9, 1 | 2);
        onDue("stuck to itself alone", false, 9, 1, 15, 0);
        onDue("stuck to a raw one", false, 9, 2 | 4);
        onDue("stuck to one that is not there", false, 9, 2 | 8);
        onDue("stuck to the eighth", false, 9, 2 | 128);
        int[] third = {16, 1, 17, 255, 18, 255, 19, 5, 21, 1, 9, 6};
        onDue("three in a row", true, third);
        third[9] = 3;
        onDue("one of them one way", false, third);
        Sentence.of(34, "heats 20 at most, or 255).");
        onDue("heat 0", true, 22, 0);
        onDue("heat 20", true, 22, 20);
        onDue("heat 21", false, 22, 21);
        onDue("heat 254", false, 22, 254);
        onDue("not lit", true, 23, 255);
        onDue("heat 20 of the last kiln", true, 23, 20);
        onDue("heat 21 of the last kiln", false, 23, 21);
    }

    private static void onKeepsNothing() {
        Sentence.of(34, "false, refused (5), all staying");
        KilnBench x = Check.made(TWO + "fuel 3;");
        x.set(0, 0, 0);
        x.light(0, 0);
        x.weeks(1);
        Check.see(x, 0, 0, 8);
        int[] wrong = goodImage();
        wrong[22] = 21;
        due("refused", 0, Check.on(x, Check.sealed(wrong)));
        due("kept stays", 1, x.has(8));
        due("seen stays", 1, x.has(9));
        due("acts stay", 3, x.has(10));
        due("fired stays", 1, x.has(5));
        due("undone", true, x.undo());
        due("as ahead of it", 0, x.place(0, 0));
    }

    // ---- promise 35

    private static void statusDue(String what, KilnBench x, int... want) {
        for (int k = 0; k < want.length; k++) {
            due(what + ", status " + k, want[k], x.status(k));
        }
    }

    private static void status() {
        Sentence.of(35, "How many were refused: 0 feed(), end(); 1 town(); 2 weeks(), chance(); 3 set(), take(), light(); 4 undo(); 5 seed(), see(), on().");
        KilnBench x = new KilnBench();
        statusDue("at first", x, 0, 0, 0, 0, 0, 0);
        x.end(-1);
        statusDue("end", x, 1, 0, 0, 0, 0, 0);
        x.feed(-1, -1, -1, -1, -1);
        x.town();
        statusDue("town", x, 1, 1, 0, 0, 0, 0);
        x.weeks(0);
        statusDue("weeks", x, 1, 1, 1, 0, 0, 0);
        x.chance(0);
        statusDue("chance", x, 1, 1, 2, 0, 0, 0);
        x.set(0, 0, 0);
        statusDue("set", x, 1, 1, 2, 1, 0, 0);
        x.take(0);
        statusDue("take", x, 1, 1, 2, 2, 0, 0);
        x.light(0, 0);
        statusDue("light", x, 1, 1, 2, 3, 0, 0);
        x.undo();
        statusDue("undo", x, 1, 1, 2, 3, 1, 0);
        x.seed(-1);
        statusDue("seed", x, 1, 1, 2, 3, 1, 1);
        x.see();
        statusDue("see", x, 1, 1, 2, 3, 1, 2);
        x.on();
        statusDue("on", x, 1, 1, 2, 3, 1, 3);
        for (int k = 0; k < 80; k++) {
            x.feed(0x20202020, 0x20202020, 0x20202020, 0x20202020, 0x20202020);
        }
        statusDue("a full tape", x, 1, 1, 2, 3, 1, 3);
        x.feed(0, 0, 0, 0, 0);
        statusDue("feed", x, 2, 1, 2, 3, 1, 3);
        x.town();
        x.seed(1);
        x.weeks(1);
        x.undo();
        Check.on(x, Check.image(x));
        statusDue("what is not refused", x, 2, 1, 2, 3, 1, 3);
        x.child(9, 9);
        x.best(9, 9);
        x.fuel(99);
        x.odds(9);
        x.octet(-1);
        statusDue("what is NONE but not refused", x, 2, 1, 2, 3, 1, 3);
        Sentence.of(35, "NONE for others.");
        for (int other : new int[] {-1, 6, 7, MOST, LEAST}) {
            due("what " + other, NONE, x.status(other));
        }
    }
}
