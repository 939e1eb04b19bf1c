/** Each promise by itself, with answers worked out by hand from the document. */
public final class PromisesTest {
    /** ann and bob may stick, dot cracks early; the first kiln is the greater one. */
    private static final String TOWN = "child ann clay 40 grit 2;child bob clay 10 grit 5;child cid clay 60 grit 0;"
        + "child dot clay 25 grit 9;kiln big room 3;kiln wee room 1;temper heat*3+clay/10+place;"
        + "cracks heat+grit>18;sticks near<3 and grits>6;burns heat*2+full;fuel 30;load 5;wind 50;";

    /** Three children, no sums, no tests: tempers are four times the heat. */
    private static final String PLAIN = "child a clay 1 grit 1;child b clay 2 grit 2;child c clay 3 grit 3;"
        + "kiln k room 3;kiln l room 6;fuel 10;load 2;";

    public static void main(String[] args) {
        newObject();
        feedAndEnd();
        town();
        faultAsked();
        sums();
        tests();
        has();
        letter();
        child();
        kilnAndPlace();
        ringsCracksHeats();
        safe();
        best();
        brothers();
        firedFuelLater();
        aheadAtTheLastWeek();
        odds();
        seeAndSeen();
        tells();
        weeks();
        chance();
        setAndTake();
        light();
        undo();
        seed();
        kept();
        imageAndOctet();
        on();
        onRefused();
        status();
        Check.finish("PromisesTest");
    }

    private static void due(String what, long want, long got) {
        Check.due(what, want, got);
    }

    private static void due(String what, boolean want, boolean got) {
        Check.due(what, want, got);
    }

    // ---- promise 1

    private static void newObject() {
        KilnBench x = new KilnBench();
        for (int what = 0; what <= 10; what++) {
            due("1 has " + what, 0, x.has(what));
        }
        due("1 seed", 1, x.has(11));
        due("1 NONE", -1, KilnBench.NONE);
        due("1 fault", 0, x.fault(0));
        due("1 its place", -1, x.fault(1));
        due("1 octet", -1, x.octet(0));
        due("1 image", 5, x.image());
        due("1 octet 4", (5 * (5 * (5 * (5 * 241 % 251) % 251) % 251)) % 251, x.octet(4));
        due("1 chance", 0, x.chance(40));
        due("1 week", 40, x.has(2));
    }

    // ---- promises 2 and 3

    private static void feedAndEnd() {
        KilnBench x = new KilnBench();
        // "fuel" " 12;" and twelve blanks.
        due("2 feed", 20, x.feed(0x6675656c, 0x2031323b, 0x20202020, 0x20202020, 0x20202020));
        due("2 town", 1, x.town());
        due("2 fuel", 12, x.has(3));
        for (int k = 1; k <= 80; k++) {
            due("2 feed " + k, 20 * k, x.feed(-1, 0x80808080, k, 0, Integer.MIN_VALUE));
        }
        due("2 feed too much", -1, x.feed(0, 0, 0, 0, 0));
        due("2 refused", 1, x.status(0));
        due("3 end too far", false, x.end(1601));
        due("3 end below 0", false, x.end(-1));
        due("3 end least", false, x.end(Integer.MIN_VALUE));
        due("3 refused", 4, x.status(0));
        due("3 end of all", true, x.end(1600));
        due("3 end", true, x.end(1581));
        due("2 feed one too much", -1, x.feed(0, 0, 0, 0, 0));
        due("3 end one less", true, x.end(1580));
        due("2 feed to the brim", 1600, x.feed(0, 0, 0, 0, 0));
        due("3 end 0", true, x.end(0));
        due("3 end 0 again", true, x.end(0));
        due("3 end 1 of 0", false, x.end(1));
        due("2 feed from 0", 20, x.feed(0, 0, 0, 0, 0));
    }

    // ---- promises 4 and 5

    private static void town() {
        KilnBench x = Check.made(TOWN);
        x.seed(77);
        x.set(0, 0, 0);
        x.light(0, 3);
        x.weeks(2);
        x.light(1, 3);
        x.set(1, 1, 0);
        Check.see(x, 0, 0, 10);
        int[] before = Check.image(x);
        due("4 fault", -1, Check.town(x, "fuel 5;bogus;"));
        due("4 refused", 1, x.status(1));
        due("4 the tape goes", 20, x.feed(0, 0, 0, 0, 0));
        x.end(0);
        int[] after = Check.image(x);
        for (int k = 0; k < before.length; k++) {
            due("4 all stays " + k, before[k], after[k]);
        }
        due("4 kept stays", 1, x.has(8));
        due("4 seen stays", 1, x.has(9));
        due("4 acts stay", 5, x.has(10));
        due("4 clay stays", 40, x.child(0, 0));
        due("4 another town", 2, Check.town(x, "kiln a room 2;fuel 9;"));
        due("4 the tape goes too", 20, x.feed(0, 0, 0, 0, 0));
        int[] has = {0, 1, 0, 9, 0, 0, 0, 0, 0, 0, 0, 77};
        for (int what = 0; what < has.length; what++) {
            due("4 has " + what, has[what], x.has(what));
        }
        due("4 not lit", -1, x.kiln(0, 2));
        due("4 no sums", true, x.light(0, 7));
        due("4 burns its heat", 7, x.kiln(0, 3));
        due("4 nothing kept", -1, x.kept(0, 0));
        x.end(0);
        due("4 none at all", 0, x.town());
        due("4 no kilns", 0, x.has(1));
        due("4 no fuel", 0, x.has(3));
        due("4 the last counts", 6, Check.town(x, "fuel 1;load 5;wind 100;fuel 2;load 3;wind 0;"));
        due("4 fuel", 2, x.has(3));
        due("4 load", 5, x.fuel(1));
        due("4 wind", 0, x.chance(40));
        Check.town(x, "load 7;wind 100;temper 5;cracks all;sticks all;burns 3;");
        Check.town(x, "fuel 0;child a clay 1 grit 1;child b clay 1 grit 1;kiln k room 2;");
        due("4 no load of an earlier town", 0, x.fuel(1));
        due("4 no wind", 0, x.chance(40));
        due("4 no temper", 8, x.rings(0, 2, 0));
        due("4 no cracks", 0, x.cracks(0, 2, 0));
        x.set(0, 0, 0);
        x.set(1, 0, 1);
        due("4 no sticks", 20, x.safe(0));
        due("15 of this town", 160, x.best(0, 1));
        x.light(0, 2);
        due("4 no burns", 2, x.kiln(0, 3));
        Check.town(x, "child a clay 1 grit 1;kiln k room 2;");
        due("15 of another town", -1, x.best(0, 1));
    }

    private static void faultAsked() {
        KilnBench x = new KilnBench();
        Check.town(x, "kiln a room 9;");
        due("5 fault", 4, x.fault(0));
        due("5 place", 12, x.fault(1));
        due("5 others", -1, x.fault(2));
        due("5 below", -1, x.fault(-1));
        Check.town(x, "kiln a room 6;");
        due("5 no fault", 0, x.fault(0));
        due("5 no place", -1, x.fault(1));
    }

    // ---- the terms: sums and tests

    private static int temper(String sum) {
        KilnBench x = Check.made("child a clay 30 grit 4;temper " + sum + ";");
        x.weeks(7);
        return x.rings(0, 10, 2);
    }

    private static void sums() {
        due("heat, clay, grit, place, week", 10 + 30 + 4 + 2 + 7, temper("heat+clay+grit+place+week"));
        due("from the left", 5, temper("10-3-2"));
        due("products first", 14, temper("2+3*4"));
        due("products from the left", 8, temper("20/5*2"));
        due("% from the left", 2, temper("17%5*6%10"));
        due("( )", 20, temper("(2+3)*4"));
        due("/ of a negative one", 0, temper("0-7/2"));
        due("floor", 50 - 4, temper("50+(0-7)/2"));
        due("floor by a negative one", 50 - 4, temper("50+7/(0-2)"));
        due("floor of two", 53, temper("50+(0-7)/(0-2)"));
        due("%", 1, temper("7%2"));
        due("% of a negative one", 2, temper("(0-7)%3"));
        due("% by a negative one", 50 - 2, temper("50+7%(0-3)"));
        due("% of great ones", 98, temper("(0-1000*1000)%(1000*1000-1)/9999-2"));
        due("/ by 0", 0, temper("7/0"));
        due("% by 0", 0, temper("7%0"));
        due("min", 3, temper("min(7,3)"));
        due("max", 7, temper("max(7,3)"));
        due("if", 1, temper("if(heat=10,1,2)"));
        due("if not", 2, temper("if(heat<10,1,2)"));
        due("bound above", 10, temper("9999*9999/9999/10"));
        due("bound below", 11, temper("0-(0-9999)*9999/9999/10"));
        due("bound of +", 10, temper("(9999*9999+9999*9999-999*1000)/100"));
        due("bound of -", 10, temper("0-(0-9999*9999-9999*9999+999*1000)/100"));
        due("below 0", 0, temper("0-1"));
        due("above 99", 99, temper("100"));
        due("99", 99, temper("99"));
    }

    private static int holds(String test) {
        return temper("if(" + test + ",1,0)");
    }

    private static void tests() {
        due("<", 1, holds("1<2"));
        due("< of like ones", 0, holds("2<2"));
        due(">", 1, holds("2>1"));
        due("> of like ones", 0, holds("2>2"));
        due("=", 1, holds("2=2"));
        due("= of others", 0, holds("2=3"));
        due("all", 1, holds("all"));
        due("not", 0, holds("not all"));
        due("not not", 1, holds("not not all"));
        due("and", 0, holds("all and not all"));
        due("and of both", 1, holds("all and all"));
        due("or", 1, holds("not all or all"));
        due("or of none", 0, holds("not all or not all"));
        due("and ahead of or", 1, holds("all or all and not all"));
        due("[ ]", 0, holds("[all or all] and not all"));
        due("not of its fact alone", 1, holds("not 1=2 or all"));
        due("not of a [ ]", 0, holds("not [1=2 or all]"));
        due("sums in tests", 1, holds("1+1=4/2"));
    }

    // ---- promises 6 to 10

    private static void has() {
        KilnBench x = Check.made(TOWN);
        x.set(3, 0, 0);
        x.set(0, 0, 2);
        x.set(2, 1, 0);
        x.light(0, 10);
        Check.see(x, 0, 0, 34, 1, 1, 1);
        int[] first = {4, 2, 0, 30, 3, 0, 0, 1, 0, 2, 4, 1};
        for (int what = 0; what < first.length; what++) {
            due("6 has " + what, first[what], x.has(what));
        }
        x.weeks(1);
        int[] then = {4, 2, 1, 13, 1, 2, 1, 0, 1, 2, 5, 1};
        for (int what = 0; what < then.length; what++) {
            due("6 then has " + what, then[what], x.has(what));
        }
        due("6 below", -1, x.has(-1));
        due("6 others", -1, x.has(12));
    }

    private static void letter() {
        KilnBench x = Check.made("child azmnop clay 1 grit 1;kiln b room 1;child yy clay 1 grit 1;");
        int[] first = {1, 26, 13, 14, 15, 16};
        int[] second = {25, 25, 0, 0, 0, 0};
        for (int k = 0; k < 6; k++) {
            due("7 letter " + k, first[k], x.letter(0, 0, k));
            due("7 of the second " + k, second[k], x.letter(0, 1, k));
            due("7 of the kiln " + k, k == 0 ? 2 : 0, x.letter(1, 0, k));
        }
        due("7 k below", -1, x.letter(0, 0, -1));
        due("7 k above", -1, x.letter(0, 0, 6));
        due("7 no child", -1, x.letter(0, 2, 0));
        due("7 child below", -1, x.letter(0, -1, 0));
        due("7 no kiln", -1, x.letter(1, 1, 0));
        due("7 no kind", -1, x.letter(2, 0, 0));
        due("7 kind below", -1, x.letter(-1, 0, 0));
    }

    private static void rowDue(String what, KilnBench x, int child, int... want) {
        for (int k = 0; k < want.length; k++) {
            due(what + " child " + child + " " + k, want[k], x.child(child, k));
        }
    }

    private static void child() {
        KilnBench x = Check.made(TOWN);
        rowDue("8 raw", x, 3, 25, 9, -1, -1, 0, -1, 0, -1);
        x.set(3, 0, 2);
        x.set(2, 0, 0);
        rowDue("8 set", x, 3, 25, 9, 0, 2, 0, -1, 0, -1);
        x.light(0, 10);
        x.weeks(1);
        rowDue("8 cracked", x, 3, 25, 9, -1, -1, 1, 34, 1, -1);
        rowDue("8 whole", x, 2, 60, 0, -1, -1, 1, 36, 0, -1);
        due("8 below", -1, x.child(-1, 0));
        due("8 none such", -1, x.child(4, 0));
        due("8 what below", -1, x.child(0, -1));
    }

    private static void kilnAndPlace() {
        KilnBench x = Check.made(TOWN);
        due("9 places", 3, x.kiln(0, 0));
        due("9 places of the other", 1, x.kiln(1, 0));
        due("9 empty", 0, x.kiln(0, 1));
        due("9 not lit", -1, x.kiln(0, 2));
        due("9 burns nothing", -1, x.kiln(0, 3));
        x.light(0, 7);
        due("9 burns empty", 14, x.kiln(0, 3));
        x.set(1, 0, 1);
        x.set(2, 0, 2);
        due("9 children", 2, x.kiln(0, 1));
        due("9 heat", 7, x.kiln(0, 2));
        due("9 burns", 16, x.kiln(0, 3));
        due("9 others", -1, x.kiln(0, 4));
        due("9 what below", -1, x.kiln(0, -1));
        due("9 none such", -1, x.kiln(2, 0));
        due("9 below", -1, x.kiln(-1, 0));
        due("10 nobody", -1, x.place(0, 0));
        due("10 somebody", 1, x.place(0, 1));
        due("10 another", 2, x.place(0, 2));
        due("10 beyond", -1, x.place(0, 3));
        due("10 below", -1, x.place(0, -1));
        due("10 no kiln", -1, x.place(2, 0));
        due("10 kiln below", -1, x.place(-1, -1));
        KilnBench y = Check.made("child a clay 1 grit 1;kiln k room 4;burns room*100+full*10+week-heat;fuel 5;");
        y.light(0, 5);
        due("9 room and full", 395, y.kiln(0, 3));
        y.set(0, 0, 3);
        y.weeks(3);
        due("9 by the week", 400 + 10 + 3 - 5, y.kiln(0, 3));
        KilnBench z = Check.made("child a clay 1 grit 1;kiln k room 4;burns 5-heat;");
        z.light(0, 9);
        due("9 0 at least", 0, z.kiln(0, 3));
    }

    // ---- promises 11 to 13

    private static void ringsCracksHeats() {
        KilnBench x = Check.made(TOWN);
        due("11 rings", 34, x.rings(0, 10, 0));
        due("11 by place", 39, x.rings(0, 10, 5));
        due("11 least heat", 4, x.rings(0, 0, 0));
        due("11 greatest heat", 64, x.rings(0, 20, 0));
        due("12 whole", 0, x.cracks(3, 9, 0));
        due("12 cracks", 1, x.cracks(3, 10, 0));
        int[][] wrong = {{-1, 0, 0}, {4, 0, 0}, {0, -1, 0}, {0, 21, 0}, {0, 0, -1}, {0, 0, 6}};
        for (int[] w : wrong) {
            due("11 none such", -1, x.rings(w[0], w[1], w[2]));
            due("12 none such", -1, x.cracks(w[0], w[1], w[2]));
        }
        // ann rings 3 heat + 4 and cracks from 17 on.
        due("13 all but those that crack", (1 << 17) - 1, x.heats(0, 0, 0, 99));
        due("13 from 10 to 16", 1 << 2 | 1 << 3 | 1 << 4, x.heats(0, 0, 10, 16));
        due("13 one", 1 << 3, x.heats(0, 0, 13, 13));
        due("13 none", 0, x.heats(0, 0, 14, 15));
        due("13 least above most", 0, x.heats(0, 0, 16, 10));
        due("13 any", (1 << 17) - 1, x.heats(0, 0, Integer.MIN_VALUE, Integer.MAX_VALUE));
        due("13 no place", -1, x.heats(0, 6, 0, 99));
        due("13 place below", -1, x.heats(0, -1, 0, 99));
        due("13 no child", -1, x.heats(4, 0, 0, 99));
        due("13 child below", -1, x.heats(-1, 0, 0, 99));
        x.set(0, 0, 0);
        x.light(0, 1);
        x.weeks(1);
        due("11 of one that is fired", 34, x.rings(0, 10, 0));
        KilnBench y = Check.made("child a clay 50 grit 3;temper heat*9+week;cracks rings>90 or place=4 and clay=50;");
        due("12 by rings", 0, y.cracks(0, 10, 0));
        due("12 by rings that are bounded", 1, y.cracks(0, 20, 0));
        due("12 by place", 1, y.cracks(0, 0, 4));
        y.weeks(1);
        due("11 by the week", 91, y.rings(0, 10, 0));
        due("12 by the week", 1, y.cracks(0, 10, 0));
        due("13 by the week", 1 << 1, y.heats(0, 0, 9, 10));
        KilnBench z = Check.made(PLAIN);
        due("11 without temper", 80, z.rings(2, 20, 5));
        due("12 without cracks", 0, z.cracks(2, 20, 5));
        due("13 without both", (1 << 21) - 1, z.heats(2, 0, 0, 99));
    }

    // ---- promises 14 to 16

    private static void safe() {
        KilnBench x = Check.made(TOWN);
        due("14 nobody in it", -1, x.safe(0));
        x.set(0, 0, 0);
        due("14 one alone", 16, x.safe(0));
        x.set(3, 0, 2);
        due("14 the weaker one counts", 9, x.safe(0));
        x.set(1, 0, 1);
        due("14 these stick by any heat", -1, x.safe(0));
        due("14 none such", -1, x.safe(2));
        due("14 below", -1, x.safe(-1));
        KilnBench y = Check.made("child a clay 1 grit 1;child b clay 2 grit 1;kiln k room 3;"
            + "temper clay*heat;cracks week>0 and heat>3;sticks near>12;");
        y.set(0, 0, 0);
        y.set(1, 0, 1);
        due("14 until they differ", 12, y.safe(0));
        y.set(1, 0, 2);
        due("14 not next to one another", 20, y.safe(0));
        y.weeks(1);
        due("14 by the week", 3, y.safe(0));
        KilnBench z = Check.made(PLAIN + "cracks heat>0;");
        z.set(0, 0, 0);
        due("14 the least heat", 0, z.safe(0));
        Check.town(z, PLAIN + "sticks heat>9-week and near<1;");
        z.set(0, 0, 0);
        z.set(1, 0, 1);
        due("14 sticks by the heat", 9, z.safe(0));
        z.weeks(2);
        due("14 sticks by the week", 7, z.safe(0));
        z.light(0, 7);
        z.weeks(1);
        due("16 apart by the heat", 1, z.brothers(0));
        z.undo();
        z.weeks(1);
        z.light(0, 8);
        z.weeks(1);
        due("16 none is fired twice", 1, z.brothers(0));
        z.undo();
        z.undo();
        z.undo();
        z.light(0, 8);
        z.weeks(1);
        due("16 stuck by the heat", 3, z.brothers(0));
    }

    private static void bestDue(String what, KilnBench x, int kiln, int... want) {
        for (int k = 0; k < want.length; k++) {
            due(what + " best " + k, want[k], x.best(kiln, k));
        }
    }

    private static void best() {
        KilnBench x = Check.made(TOWN);
        bestDue("15 nobody", x, 0, -1, -1, -1, -1, -1, -1);
        x.set(0, 0, 0);
        // ann: 3 heat + 4 + place, whole up to 16.
        bestDue("15 one", x, 0, 16, 48 + 4 + 2, -1, -1, 0, -1);
        x.set(1, 0, 1);
        // bob: 3 heat + 1 + place, whole up to 13; apart, or bob ahead of ann, by 4, they don't stick.
        bestDue("15 two", x, 0, 13, 43 + 40 + 3, -1, 1, 0, -1);
        x.set(3, 0, 2);
        bestDue("15 three that stick", x, 0, -1, -1, -1, -1, -1, -1);
        due("15 what below", -1, x.best(0, -1));
        due("15 none such", -1, x.best(2, 0));
        due("15 below", -1, x.best(-1, 0));
        KilnBench y = Check.made(PLAIN);
        y.set(2, 0, 0);
        y.set(0, 0, 1);
        bestDue("15 of like ones the first row", y, 0, 20, 160, -1, 0, 2, -1);
        y.set(1, 0, 2);
        bestDue("15 changes with the bench", y, 0, 20, 240, 0, 1, 2, -1);
        y.undo();
        bestDue("15 undone", y, 0, 20, 160, -1, 0, 2, -1);
        y.take(0);
        bestDue("15 taken out", y, 0, 20, 80, -1, -1, 2, -1);
        KilnBench z = Check.made("child a clay 1 grit 1;kiln k room 2;temper min(heat,5)-week;");
        z.set(0, 0, 0);
        bestDue("15 the least heat", z, 0, 5, 5, -1, 0, -1);
        z.weeks(5);
        bestDue("15 by the week", z, 0, 0, 0, -1, 0, -1);
        KilnBench w = Check.made("child a clay 1 grit 1;child b clay 9 grit 1;kiln k room 3;"
            + "temper 5+clay*place;sticks all;");
        w.set(0, 0, 0);
        w.set(1, 0, 1);
        bestDue("15 apart", w, 0, 0, 28, 0, -1, 1, -1);
        int[] image = Check.image(w);
        image[11] = 255;
        image[12] = 255;
        due("15 an image with one of them", 1, Check.on(w, Check.sealed(image)));
        bestDue("15 of that image", w, 0, 0, 7, -1, -1, 0, -1);
        KilnBench v = Check.made("child a clay 1 grit 1;child b clay 9 grit 2;child c clay 5 grit 4;kiln k room 4;"
            + "temper 9+clay*place;cracks clay=9 and place=3;sticks grits=5 or near>20;");
        v.set(0, 0, 0);
        v.set(1, 0, 1);
        v.set(2, 0, 2);
        // b rings 9, 18, 27 at 0, 1, 2, and may not be next to one that rings by 21 less, nor a next to c.
        bestDue("15 four places", v, 0, 0, 10 + 27 + 24, -1, 0, 1, 2, -1);
    }

    private static void brothers() {
        KilnBench x = Check.made("child a clay 1 grit 1;child b clay 2 grit 5;child c clay 3 grit 1;"
            + "child d clay 4 grit 0;child e clay 5 grit 5;kiln k room 5;sticks grits=6;");
        for (int c = 0; c < 5; c++) {
            x.set(c, 0, c);
            due("16 raw", 0, x.brothers(c));
        }
        x.light(0, 0);
        x.weeks(1);
        due("16 by one between", 7, x.brothers(0));
        due("16 the one between", 7, x.brothers(1));
        due("16 the last of them", 7, x.brothers(2));
        due("16 alone", 8, x.brothers(3));
        due("16 next to one that does not stick", 16, x.brothers(4));
        due("16 none such", -1, x.brothers(5));
        due("16 below", -1, x.brothers(-1));
        // A gap keeps two apart, and so do two firings.
        KilnBench y = Check.made(PLAIN + "sticks all;");
        y.set(0, 0, 0);
        y.set(1, 0, 2);
        y.set(2, 1, 0);
        y.light(0, 0);
        y.light(1, 0);
        y.weeks(1);
        for (int c = 0; c < 3; c++) {
            due("16 apart", 1 << c, y.brothers(c));
        }
    }

    // ---- promises 17 to 20

    private static void firedFuelLater() {
        KilnBench x = Check.made(TOWN);
        x.set(0, 0, 0);
        x.set(1, 0, 1);
        x.set(3, 0, 2);
        x.set(2, 1, 0);
        due("17 not lit", -1, x.fired(0));
        x.light(0, 8);
        x.light(1, 12);
        due("17 next", 0, x.fired(0));
        due("17 waits for fuel", 2, x.fired(1));
        due("17 none such", -1, x.fired(2));
        due("17 below", -1, x.fired(-1));
        int[] fuel = {30, 16, 21, 1, 6};
        for (int n = 0; n < fuel.length; n++) {
            due("18 fuel " + n, fuel[n], x.fuel(n));
        }
        due("18 at last", 1 + 37 * 5, x.fuel(40));
        due("18 too far", -1, x.fuel(41));
        due("18 below", -1, x.fuel(-1));
        due("18 far below", -1, x.fuel(Integer.MIN_VALUE));
        due("18 far", -1, x.fuel(Integer.MAX_VALUE));
        due("19 raw now", -1, x.later(0, 0));
        due("19 then", 28, x.later(0, 1));
        due("19 waits", -1, x.later(2, 2));
        due("19 at last", 42, x.later(2, 3));
        due("19 at 40", 42, x.later(2, 40));
        due("19 too far", -1, x.later(2, 41));
        due("19 below", -1, x.later(2, -1));
        due("19 none such", -1, x.later(4, 1));
        due("19 child below", -1, x.later(-1, 1));
        due("18 nothing has come yet", 30, x.has(3));
        x.weeks(1);
        due("17 no more", -1, x.fired(0));
        due("17 one less", 1, x.fired(1));
        due("19 as it was", 28, x.later(0, 0));
        due("19 and stays", 28, x.later(0, 9));
        due("17 a lit kiln that is empty", true, x.light(0, 3));
        due("17 is not fired", -1, x.fired(0));
        KilnBench y = Check.made("child a clay 1 grit 1;kiln k room 1;temper week*2;burns 999;load 25;");
        y.set(0, 0, 0);
        y.light(0, 1);
        due("17 the last that is told", 39, y.fired(0));
        due("19 by its own week", 78, y.later(0, 40));
        due("19 ahead of it", -1, y.later(0, 39));
        Check.town(y, "child a clay 1 grit 1;kiln k room 1;burns 1000;load 25;");
        y.set(0, 0, 0);
        y.light(0, 1);
        due("17 just enough", 39, y.fired(0));
        Check.town(y, "child a clay 1 grit 1;kiln k room 1;burns 1001;load 25;");
        y.set(0, 0, 0);
        y.light(0, 1);
        due("17 one too few", -1, y.fired(0));
        Check.town(y, "load 999;fuel 999;");
        due("18 no more than the yard holds", 9999, y.fuel(40));
        due("18 up to that", 9990, y.fuel(9));
        due("18 and there", 9999, y.fuel(10));
    }

    private static KilnBench atWeek(String text, int week) {
        KilnBench x = Check.made(text);
        int[] image = Check.image(x);
        image[0] = week >> 8;
        image[1] = week & 255;
        due("at week " + week, 1, Check.on(x, Check.sealed(image)));
        return x;
    }

    private static void aheadAtTheLastWeek() {
        KilnBench x = atWeek("child a clay 1 grit 1;kiln k room 1;burns 3;load 1;cracks all;", 996);
        x.set(0, 0, 0);
        x.light(0, 5);
        due("17 in the last week", 2, x.fired(0));
        due("18 the last week", 0, x.fuel(3));
        due("18 beyond", -1, x.fuel(4));
        due("19 the last week", 20, x.later(0, 3));
        due("19 beyond", -1, x.later(0, 4));
        due("24 beyond", -1, x.weeks(4));
        due("25 beyond", -1, x.chance(4));
        due("24 refused", 2, x.status(2));
        due("24 weeks", 0, x.weeks(1));
        x.light(0, NONE);
        due("24 weeks", 0, x.weeks(2));
        due("24 the last week", 999, x.has(2));
        x.light(0, 5);
        due("17 beyond the last", -1, x.fired(0));
        due("18 now", 3, x.fuel(0));
        due("18 beyond the last", -1, x.fuel(1));
        due("19 beyond the last", -1, x.later(0, 1));
        due("20 beyond the last", -1, x.odds(0));
        due("24 beyond the last", -1, x.weeks(1));
        due("25 beyond the last", -1, x.chance(1));
        due("25 without draws", 1, x.has(11));
        due("24 refused", 4, x.status(2));
        x.undo();
        due("24 undone", 997 + 2, x.has(2));
        x.undo();
        due("24 undone", 997, x.has(2));
        KilnBench y = atWeek("child a clay 1 grit 1;kiln k room 1;cracks all;fuel 20;wind 10;", 998);
        y.set(0, 0, 0);
        y.light(0, 5);
        due("20 in the last week", 300, y.odds(0));
        due("17 the last week", 0, y.fired(0));
    }

    private static final int NONE = KilnBench.NONE;

    private static void odds() {
        KilnBench x = Check.made(TOWN);
        due("20 in no kiln", -1, x.odds(3));
        x.set(3, 0, 2);
        due("20 not lit", -1, x.odds(3));
        // dot cracks from 10 on, and the wind is 50.
        int[] odds = {0, 0, 0, 0, 0, 0, 0, 50, 100, 150, 300, 300};
        for (int heat = 0; heat < odds.length; heat++) {
            x.light(0, heat);
            due("20 odds by " + heat, odds[heat], x.odds(3));
        }
        x.light(0, 20);
        due("20 too little fuel", 0, x.odds(3));
        due("20 none such", -1, x.odds(4));
        due("20 below", -1, x.odds(-1));
        due("20 without draws", 1, x.has(11));
        x.light(0, 5);
        x.weeks(1);
        due("20 fired", -1, x.odds(3));
        KilnBench y = Check.made("child a clay 1 grit 1;kiln k room 1;cracks heat=20;fuel 40;wind 7;");
        y.set(0, 0, 0);
        int[] bounded = {0, 7, 14, 21, 300};
        for (int k = 0; k < bounded.length; k++) {
            y.light(0, 16 + k);
            due("20 20 at most " + k, bounded[k], y.odds(0));
        }
        KilnBench z = Check.made(PLAIN + "cracks all;burns 8;");
        z.set(0, 0, 0);
        z.set(1, 1, 0);
        z.light(0, 1);
        z.light(1, 1);
        due("20 the first burns", 300, z.odds(0));
        due("20 so the second waits", 0, z.odds(1));
    }

    // ---- promises 21 to 23

    private static void seeAndSeen() {
        KilnBench x = Check.made("child a clay 10 grit 0;child b clay 4 grit 0;temper heat/clay*10+place+week;");
        due("22 all", (1 << 21) - 1, x.seen());
        due("21 one row", 1, Check.see(x, 0, 3, 13));
        due("22 by one", (1 << 20) - (1 << 10), x.seen());
        due("21 two rows", 2, Check.see(x, 0, 0, 10, 1, 5, 35));
        due("22 by two", 1 << 12 | 1 << 13 | 1 << 14 | 1 << 15, x.seen());
        due("6 rows", 2, x.has(9));
        due("21 the tape goes", 20, x.feed(0, 0, 0, 0, 0));
        int[][] wrong = {{}, {0}, {0, 0}, {0, 0, 1, 0}, {2, 0, 0}, {0, 6, 0}, {0, 0, 100}, {255, 0, 0}, {0, 0, 1, 1, 0, 200},
            new int[51]};
        for (int k = 0; k < wrong.length; k++) {
            due("21 wrong " + k, -1, Check.see(x, wrong[k]));
            due("21 refused " + k, k + 1, x.status(5));
            due("6 rows stay " + k, 2, x.has(9));
            due("22 stays " + k, 61440, x.seen());
            due("21 the tape goes " + k, 20, x.feed(0, 0, 0, 0, 0));
        }
        due("21 sixteen rows", 16, Check.see(x, new int[48]));
        due("22 by sixteen", 15, x.seen() & 15);
        due("21 none left", 1, Check.see(x, 0, 0, 99));
        due("22 none left", 0, x.seen());
        for (int what = 0; what < 3; what++) {
            due("23 none left " + what, -1, x.tells(what));
        }
        Check.see(x, 0, 0, 10);
        x.weeks(1);
        due("22 by the week of now", 0, x.seen());
        x.undo();
        due("22 as it was", (1 << 20) - (1 << 10), x.seen());
        Check.town(x, "bogus");
        due("22 a fault changes nothing", (1 << 20) - (1 << 10), x.seen());
        Check.town(x, "child a clay 10 grit 0;");
        due("22 another town", (1 << 21) - 1, x.seen());
    }

    private static void tellsDue(String what, KilnBench x, int child, int place, int most) {
        due(what + " child", child, x.tells(0));
        due(what + " place", place, x.tells(1));
        due(what + " most", most, x.tells(2));
    }

    private static void tells() {
        KilnBench x = Check.made("child a clay 10 grit 0;child b clay 4 grit 0;temper heat/max(clay-place,3);");
        // b at place 1 rings by threes: seven tempers, three heats each.
        tellsDue("23 of all", x, 1, 1, 3);
        // From 12 to 14 b rings alike, a at place 3 (by sevens) parts 12, 13 from 14.
        Check.see(x, 1, 1, 4);
        due("22 left", 7 << 12, x.seen());
        tellsDue("23 of three", x, 0, 3, 2);
        due("23 others", -1, x.tells(3));
        due("23 below", -1, x.tells(-1));
        tellsDue("23 without children", new KilnBench(), -1, -1, -1);
        tellsDue("23 without temper the first", Check.made(PLAIN), 0, 0, 1);
        KilnBench y = Check.made("child a clay 1 grit 1;child b clay 2 grit 1;temper 7;");
        tellsDue("23 where all are alike", y, 0, 0, 21);
        KilnBench z = Check.made("child a clay 1 grit 1;child b clay 2 grit 1;temper if(clay+week>1,heat,7);");
        tellsDue("23 of now", z, 1, 0, 1);
        z.weeks(2);
        tellsDue("23 by the week", z, 0, 0, 1);
        Check.see(z, 0, 0, 99);
        tellsDue("23 none left then", z, -1, -1, -1);
        Check.town(z, "");
        tellsDue("23 no children then", z, -1, -1, -1);
        tellsDue("23 the greatest temper", Check.made("child a clay 1 grit 1;temper 99-heat/2;"), 0, 0, 2);
    }

    // ---- promises 24 and 25

    private static void weeks() {
        KilnBench x = Check.made(TOWN);
        x.set(0, 0, 0);
        x.set(1, 0, 1);
        x.set(3, 0, 2);
        x.set(2, 1, 0);
        x.light(0, 8);
        x.light(1, 12);
        int acts = x.has(10);
        due("24 two firings", 2, x.weeks(3));
        due("24 one act", acts + 1, x.has(10));
        due("24 week", 3, x.has(2));
        due("24 fuel", 1, x.has(3));
        due("24 not lit", -1, x.kiln(0, 2));
        due("24 empty", 0, x.kiln(0, 1));
        due("24 nobody", -1, x.place(0, 0));
        // ann 28 and bob 26 differ by 2 with grit 7; bob and dot (28, by its place) by 2 with 14.
        due("24 tempers", 28, x.child(0, 5));
        due("24 tempers", 26, x.child(1, 5));
        due("24 tempers", 28, x.child(3, 5));
        due("24 stuck", 11, x.brothers(0));
        due("24 0", -1, x.weeks(0));
        due("24 below", -1, x.weeks(-1));
        due("24 too many", -1, x.weeks(41));
        due("24 far too many", -1, x.weeks(Integer.MAX_VALUE));
        due("24 refused", 4, x.status(2));
        due("24 the most", 0, x.weeks(40));
        due("24 week then", 43, x.has(2));
        due("24 without draws", 1, x.has(11));
        // What waits stays lit and full, and a kiln behind it may burn what is there.
        KilnBench y = Check.made("child a clay 1 grit 1;child b clay 1 grit 1;kiln k room 1;kiln l room 1;fuel 5;load 1;");
        y.set(0, 0, 0);
        y.set(1, 1, 0);
        y.light(0, 9);
        y.light(1, 6);
        due("24 the second alone", 1, y.weeks(1));
        due("24 all is gone", 0, y.has(3));
        due("24 the first waits lit", 9, y.kiln(0, 2));
        due("24 and full", 0, y.place(0, 0));
        due("24 not yet", 0, y.weeks(8));
        due("24 then", 1, y.weeks(1));
        due("24 fuel then", 0, y.has(3));
    }

    private static int seedBehind(int seed) {
        return (int) ((1103515245L * seed + 12345L) % 2147483648L);
    }

    /** What weeks by the seed come to in a town where the heat can be read from the temper. */
    private static void chance() {
        for (int seed = 0; seed < 60; seed++) {
            KilnBench x = Check.made("child a clay 1 grit 1;kiln k room 1;temper heat;cracks heat>11;fuel 10;wind 45;");
            x.seed(seed * 35791394);
            x.set(0, 0, 0);
            x.light(0, 10);
            int s = seedBehind(seed * 35791394);
            int gust = 0;
            if (s / 64 % 100 < 45) {
                s = seedBehind(s);
                gust = 1 + s / 64 % 3;
            }
            due("25 gusts " + seed, gust > 0 ? 1 : 0, x.chance(1));
            due("25 temper " + seed, 10 + gust, x.child(0, 5));
            due("25 cracked " + seed, gust > 1 ? 1 : 0, x.child(0, 6));
            due("25 kept heat " + seed, 10 + gust, x.kept(0, 2));
            due("25 seed " + seed, s, x.has(11));
            due("25 burnt by the heat it was lit to", 0, x.has(3));
        }
        KilnBench y = Check.made("wind 100;");
        due("25 all gusts", 40, y.chance(40));
        due("25 one act", 1, y.has(10));
        int s = 1;
        for (int k = 0; k < 80; k++) {
            s = seedBehind(s);
        }
        due("25 two draws each", s, y.has(11));
        Check.town(y, "wind 0;");
        y.seed(5);
        due("25 no gusts", 0, y.chance(3));
        due("25 one draw each", seedBehind(seedBehind(seedBehind(5))), y.has(11));
        due("25 weeks", 3, y.has(2));
        due("25 0", -1, y.chance(0));
        due("25 too many", -1, y.chance(41));
        due("25 below", -1, y.chance(-5));
        due("25 refused", 3, y.status(2));
        KilnBench z = Check.made("child a clay 1 grit 1;kiln k room 1;temper heat;fuel 20;wind 100;");
        z.set(0, 0, 0);
        z.light(0, 20);
        z.chance(1);
        due("25 20 at most", 20, z.child(0, 5));
    }

    // ---- promises 26 to 28

    private static void setAndTake() {
        KilnBench x = Check.made(PLAIN);
        due("26 set", true, x.set(0, 0, 0));
        due("26 not free", false, x.set(1, 0, 0));
        due("26 not free for itself", false, x.set(0, 0, 0));
        due("26 moved", true, x.set(0, 1, 5));
        due("26 gone from there", -1, x.place(0, 0));
        due("26 is here", 0, x.place(1, 5));
        due("26 no child", false, x.set(3, 0, 0));
        due("26 child below", false, x.set(-1, 0, 0));
        due("26 no kiln", false, x.set(0, 2, 0));
        due("26 kiln below", false, x.set(0, -1, -1));
        due("26 no place", false, x.set(0, 0, 3));
        due("26 place below", false, x.set(0, 0, -1));
        due("26 refused", 8, x.status(3));
        due("27 take", true, x.take(0));
        due("27 gone", -1, x.place(1, 5));
        due("27 kiln", -1, x.child(0, 2));
        due("27 place", -1, x.child(0, 3));
        due("27 in no kiln", false, x.take(0));
        due("27 none such", false, x.take(3));
        due("27 below", false, x.take(-1));
        due("27 refused", 11, x.status(3));
        due("10 acts", 3, x.has(10));
        x.set(0, 0, 1);
        x.light(0, 5);
        x.weeks(1);
        due("26 fired", false, x.set(0, 0, 0));
        due("27 fired", false, x.take(0));
        due("26 another to its place", true, x.set(1, 0, 1));
    }

    private static void light() {
        KilnBench x = Check.made(PLAIN);
        due("28 is out already", false, x.light(0, NONE));
        due("28 lit", true, x.light(0, 0));
        due("28 to that already", false, x.light(0, 0));
        due("28 to another heat", true, x.light(0, 20));
        due("28 heat", 20, x.kiln(0, 2));
        due("28 too hot", false, x.light(0, 21));
        due("28 below", false, x.light(0, -2));
        due("28 none such", false, x.light(2, 5));
        due("28 kiln below", false, x.light(-1, 5));
        due("28 put out", true, x.light(0, NONE));
        due("28 not lit", -1, x.kiln(0, 2));
        due("28 refused", 6, x.status(3));
        due("28 acts", 3, x.has(10));
    }

    // ---- promises 29 to 31

    private static void undo() {
        KilnBench x = Check.made(TOWN);
        due("29 none yet", false, x.undo());
        due("29 refused", 1, x.status(4));
        x.set(3, 0, 0);
        x.set(1, 0, 1);
        x.light(0, 10);
        int[] before = Check.image(x);
        x.chance(2);
        int seed = x.has(11);
        due("29 fired", 2, x.has(5));
        due("29 undone", true, x.undo());
        int[] after = Check.image(x);
        for (int k = 0; k < before.length; k++) {
            due("29 as it was " + k, before[k], after[k]);
        }
        due("29 nothing kept", 0, x.has(8));
        due("29 but the seed", seed, x.has(11));
        due("29 acts left", 3, x.has(10));
        due("29 light", true, x.undo());
        due("29 not lit", -1, x.kiln(0, 2));
        due("29 set", true, x.undo());
        due("29 not set", -1, x.child(1, 2));
        due("29 set", true, x.undo());
        due("29 none left", false, x.undo());
        KilnBench y = Check.made(PLAIN);
        for (int k = 0; k < 25; k++) {
            y.light(0, k % 21);
            due("29 acts " + k, Math.min(20, k + 1), y.has(10));
        }
        for (int k = 24; k >= 5; k--) {
            due("29 undone " + k, true, y.undo());
            due("29 heat ahead of it", (k - 1) % 21, y.kiln(0, 2));
        }
        due("29 no more than 20", false, y.undo());
        due("29 the heat stays", 4, y.kiln(0, 2));
        // What is kept comes back too, and what was refused is no act.
        y.set(0, 0, 0);
        y.weeks(3);
        y.set(1, 1, 0);
        y.light(1, 5);
        y.light(1, 5);
        y.weeks(1);
        due("29 two kept", 2, y.has(8));
        y.undo();
        due("29 one kept", 1, y.has(8));
        due("29 that one", 0, y.kept(0, 0));
        y.undo();
        due("29 out again", -1, y.kiln(1, 2));
    }

    private static void seed() {
        KilnBench x = new KilnBench();
        due("30 seed", true, x.seed(0));
        due("30 is 0", 0, x.has(11));
        due("30 greatest", true, x.seed(Integer.MAX_VALUE));
        due("30 is that", Integer.MAX_VALUE, x.has(11));
        due("30 below", false, x.seed(-1));
        due("30 least", false, x.seed(Integer.MIN_VALUE));
        due("30 stays", Integer.MAX_VALUE, x.has(11));
        due("30 refused", 2, x.status(5));
        due("30 is no act", 0, x.has(10));
        x.chance(1);
        due("30 a draw of it", seedBehind(Integer.MAX_VALUE), x.has(11));
        due("30 not undone", true, x.undo());
        due("30 stays so", seedBehind(Integer.MAX_VALUE), x.has(11));
    }

    private static void kept() {
        KilnBench x = Check.made(TOWN);
        due("31 nothing", -1, x.kept(0, 0));
        x.weeks(6);
        x.set(3, 0, 0);
        x.set(1, 0, 2);
        x.set(2, 1, 0);
        x.light(0, 14);
        x.light(1, 18);
        due("31 firings", 2, x.weeks(5));
        // 65 are there in week 6, of which the first burns 30; the second needs 37, and 40 are there in week 7.
        int[][] want = {{6, 0, 14, 2}, {7, 1, 18, 0}};
        for (int k = 0; k < 2; k++) {
            for (int what = 0; what < 4; what++) {
                due("31 kept " + k + " " + what, want[k][what], x.kept(k, what));
            }
            due("31 others", -1, x.kept(k, 4));
            due("31 what below", -1, x.kept(k, -1));
        }
        due("31 none such", -1, x.kept(2, 0));
        due("31 below", -1, x.kept(-1, 0));
        // Eight children are fired one by one.
        StringBuilder text = new StringBuilder("kiln k room 1;cracks clay%2=1;");
        for (int c = 0; c < 8; c++) {
            text.append("child ").append((char) ('p' + c)).append(" clay ").append(c).append(" grit 0;");
        }
        KilnBench y = Check.made(text.toString());
        for (int c = 0; c < 8; c++) {
            y.set(c, 0, 0);
            y.light(0, 0);
            y.weeks(c + 1);
        }
        due("31 eight", 8, y.has(8));
        for (int c = 0; c < 8; c++) {
            due("31 week of " + c, c * (c + 1) / 2, y.kept(c, 0));
            due("31 cracked of " + c, c % 2, y.kept(c, 3));
        }
    }

    // ---- promises 32 to 34

    private static void imageDue(String what, KilnBench x, int... want) {
        Check.sealed(want);
        due(what + " length", want.length, x.image());
        for (int k = 0; k < want.length; k++) {
            due(what + " octet " + k, want[k], x.octet(k));
        }
        due(what + " beyond", -1, x.octet(want.length));
        due(what + " below", -1, x.octet(-1));
    }

    private static void imageAndOctet() {
        KilnBench x = Check.made("child a clay 1 grit 1;child b clay 2 grit 2;child c clay 3 grit 3;"
            + "kiln k room 3;kiln l room 6;fuel 700;load 2;sticks all;cracks clay=2;");
        imageDue("32 first", x, 0, 0, 2, 188, 0, 255, 255, 255, 0, 0, 0, 255, 255, 255, 0, 0, 0, 255, 255, 255, 0, 0,
            255, 255, 0);
        x.set(0, 0, 1);
        x.set(1, 0, 2);
        x.set(2, 1, 4);
        x.light(0, 10);
        x.weeks(1);
        x.light(1, 20);
        due("33 of the latest one", 0, x.octet(1));
        imageDue("32 then", x, 0, 1, 2, 180, 1, 255, 255, 40, 0, 2, 1, 255, 255, 40, 1, 1, 0, 1, 4, 255, 0, 0,
            255, 20, 0);
        x.light(1, NONE);
        for (int k = 0; k < 8; k++) {
            x.weeks(40);
        }
        imageDue("32 later", x, 1, 65, 5, 52, 1, 255, 255, 40, 0, 2, 1, 255, 255, 40, 1, 1, 0, 1, 4, 255, 0, 0,
            255, 255, 0);
        StringBuilder text = new StringBuilder("kiln k room 6;kiln l room 6;kiln m room 6;");
        for (int c = 0; c < 8; c++) {
            text.append("child ").append((char) ('p' + c)).append(" clay 1 grit 1;");
        }
        KilnBench y = Check.made(text.toString());
        y.set(7, 2, 5);
        y.light(2, 0);
        int[] longest = new int[56];
        for (int c = 0; c < 8; c++) {
            java.util.Arrays.fill(longest, 5 + 6 * c, 8 + 6 * c, 255);
        }
        java.util.Arrays.fill(longest, 52, 54, 255);
        longest[47] = 2;
        longest[48] = 5;
        imageDue("32 the longest", y, longest);
        due("34 the longest", 1, Check.on(y, longest));
        Check.town(x, "fuel 1;");
        due("33 the latest one stays", 65, x.octet(1));
        imageDue("32 of an empty town", x, 0, 0, 0, 1, 0);
    }

    private static void on() {
        KilnBench x = Check.made(TOWN);
        x.set(0, 0, 0);
        x.set(1, 0, 1);
        x.set(2, 0, 2);
        x.light(0, 8);
        x.weeks(1);
        x.set(3, 1, 0);
        x.light(1, 4);
        int[] image = Check.image(x);
        x.seed(123);
        KilnBench y = Check.made(TOWN);
        y.seed(9);
        Check.see(y, 0, 0, 10);
        y.set(0, 1, 0);
        y.light(1, 0);
        y.weeks(1);
        due("34 on", 1, Check.on(y, image));
        int[] has = {4, 2, 1, 16, 1, 3, 0, 1, 0, 1, 0, 9};
        for (int what = 0; what < has.length; what++) {
            due("34 has " + what, has[what], y.has(what));
        }
        due("34 the tape goes", 20, y.feed(0, 0, 0, 0, 0));
        for (int c = 0; c < 4; c++) {
            for (int what = 0; what < 7; what++) {
                due("34 child " + c + " " + what, x.child(c, what), y.child(c, what));
            }
            due("34 brothers " + c, x.brothers(c), y.brothers(c));
        }
        due("34 lit", 4, y.kiln(1, 2));
        due("34 goes on", 1, y.weeks(1));
        due("34 kept", 1, y.has(8));
        due("34 undo", true, y.undo());
        due("34 no more undone", false, y.undo());
        due("34 best anew", 3, y.best(1, 2));
        // All that an image may tell: the last week, the most fuel, cracked ones, three in a row.
        int[] most = Check.sealed(3, 231, 39, 15, 1, 255, 255, 99, 1, 2, 1, 255, 255, 0, 0, 5, 1, 255, 255, 50, 1, 2,
            0, 0, 2, 255, 0, 0, 20, 0, 0);
        due("34 the most", 1, Check.on(y, most));
        due("34 week", 999, y.has(2));
        due("34 fuel", 9999, y.has(3));
        due("34 cracked", 2, y.has(6));
        due("34 brothers", 7, y.brothers(0));
        due("34 lit kilns", 2, y.has(7));
    }

    private static void refusedOn(String what, int at, int value) {
        int[] image = {0, 5, 0, 9, 1, 255, 255, 60, 0, 2, 1, 255, 255, 70, 1, 1, 0, 0, 1, 255, 0, 0, 0, 255, 255, 255, 0, 0,
            255, 3, 0};
        image[at] = value;
        Check.sealed(image);
        KilnBench x = Check.made(TOWN);
        x.set(2, 0, 0);
        int[] before = Check.image(x);
        due("34 " + what, 0, Check.on(x, image));
        due("34 refused " + what, 1, x.status(5));
        due("34 act stays " + what, 1, x.has(10));
        int[] after = Check.image(x);
        for (int k = 0; k < before.length; k++) {
            due("34 stays " + what + " " + k, before[k], after[k]);
        }
        due("34 the tape goes " + what, 20, x.feed(0, 0, 0, 0, 0));
    }

    private static void onRefused() {
        refusedOn("week 1000 and more", 0, 4);
        refusedOn("fuel 10249", 2, 40);
        refusedOn("neither raw nor fired", 4, 2);
        refusedOn("fired and in a kiln", 5, 0);
        refusedOn("fired and in a place", 6, 0);
        refusedOn("fired with temper 100", 7, 100);
        refusedOn("fired with temper 255", 7, 255);
        refusedOn("cracked twice", 8, 2);
        refusedOn("stuck to itself", 9, 3);
        refusedOn("stuck to none, though one sticks to it", 9, 0);
        refusedOn("stuck to a raw one", 9, 2 | 4);
        refusedOn("stuck to one that is not there", 9, 2 | 16);
        refusedOn("raw, though one sticks to it", 10, 0);
        refusedOn("raw in no such kiln", 17, 2);
        refusedOn("raw in no such place", 18, 3);
        refusedOn("raw in a place of no kiln", 17, 255);
        refusedOn("raw in no place of a kiln", 18, 255);
        refusedOn("raw with a temper", 19, 5);
        refusedOn("raw and cracked", 20, 1);
        refusedOn("raw and stuck", 21, 1);
        refusedOn("lit to 21", 28, 21);
        refusedOn("lit to 254", 29, 254);
        int[] image = Check.sealed(0, 5, 0, 9, 1, 255, 255, 60, 0, 2, 1, 255, 255, 70, 1, 1, 0, 0, 1, 255, 0, 0, 0, 0, 1, 255,
            0, 0, 255, 3, 0);
        KilnBench x = Check.made(TOWN);
        due("34 two in one place", 0, Check.on(x, image));
        image[24] = 2;
        due("34 a wrong last byte", 0, Check.on(x, image));
        Check.sealed(image);
        due("34 good", 1, Check.on(x, image));
        due("34 too short", 0, Check.on(x, java.util.Arrays.copyOf(image, 30)));
        due("34 too long", 0, Check.on(x, java.util.Arrays.copyOf(image, 32)));
        due("34 empty", 0, Check.on(x));
        Check.town(x, "kiln k room 1;");
        due("34 of another town", 0, Check.on(x, image));
        Check.town(x, "");
        due("34 without a town", 1, Check.on(x, Check.sealed(1, 0, 0, 7, 0)));
        due("34 week 256", 256, x.has(2));
    }

    // ---- promise 35

    private static void status() {
        KilnBench x = new KilnBench();
        for (int what = 0; what < 6; what++) {
            due("35 none " + what, 0, x.status(what));
        }
        x.end(-1);
        Check.town(x, "x");
        x.weeks(0);
        x.chance(0);
        x.set(0, 0, 0);
        x.take(0);
        x.light(0, 0);
        x.undo();
        x.seed(-1);
        x.see();
        x.on();
        int[] want = {1, 1, 2, 3, 1, 3};
        for (int what = 0; what < 6; what++) {
            due("35 refused " + what, want[what], x.status(what));
        }
        due("35 others", -1, x.status(6));
        due("35 below", -1, x.status(-1));
        Check.town(x, TOWN);
        due("35 a town changes nothing", 1, x.status(1));
    }
}
