/** Weeks and acts: each sentence of the terms II and of promises 24 to 31 that names a boundary, on both sides of it. */
public final class BoundariesOfWeeksTest {
    private static final int NONE = KilnBench.NONE;

    public static void main(String[] args) {
        calls();
        atFirst();
        oneInAPlace();
        firedForGood();
        tempers();
        cracking();
        sticking();
        differencesAndGrit();
        theYard();
        whichKilns();
        comingOut();
        burning();
        asMuch();
        waiting();
        lastWeek();
        gusts();
        gustsOnTheHeat();
        keptAtMost();
        acts();
        draws();
        weeks();
        chance();
        set();
        take();
        light();
        undo();
        seed();
        kept();
        Sentence.haveBeen(24, 31);
        Sentence.finish("BoundariesOfWeeksTest");
    }

    private static void due(String what, long want, long got) {
        Sentence.due(what, want, got);
    }

    private static void due(String what, boolean want, boolean got) {
        Sentence.due(what, want, got);
    }

    /** One child, one kiln of one place, the child in it, the kiln lit. */
    private static KilnBench oneLit(int heat, String more) {
        KilnBench x = Check.made("child a clay 30 grit 4;kiln k room 1;" + more);
        x.set(0, 0, 0);
        x.light(0, heat);
        return x;
    }

    private static void goTo(KilnBench x, int week) {
        int[] image = Check.image(x);
        image[0] = week >> 8;
        image[1] = week & 255;
        Check.due("an image of week " + week, 1, Check.on(x, Check.sealed(image)));
    }

    private static int seedBehind(int seed) {
        return (int) ((1103515245L * seed + 12345L) % 2147483648L);
    }

    // ---- what it is

    private static void calls() {
        Sentence.ofTerms("An object is used for at most 512 calls after it has been made");
        KilnBench x = new KilnBench();
        for (int call = 1; call <= 511; call++) {
            x.undo();
        }
        due("the 512th call", 511, x.status(4));
        KilnBench y = new KilnBench();
        y.feed(0x6b696c6e, 0x206b2072, 0x6f6f6d20, 0x313b2020, 0x20202020);
        y.town();
        for (int call = 3; call <= 511; call++) {
            y.light(0, call % 21);
        }
        due("the 512th call behind as many acts", 20, y.has(10));
    }

    // ---- terms II

    private static void atFirst() {
        Sentence.ofTerms("It is WEEK 0 at first, all are RAW, not in a KILN, nothing is lit.");
        KilnBench x = Check.made("child a clay 1 grit 1;child b clay 1 grit 1;kiln k room 1;kiln l room 6;kiln m room 2;fuel 9;");
        due("week", 0, x.has(2));
        due("in kilns", 0, x.has(4));
        due("fired", 0, x.has(5));
        due("lit", 0, x.has(7));
        for (int c = 0; c < 2; c++) {
            due("in no kiln", NONE, x.child(c, 2));
            due("in no place", NONE, x.child(c, 3));
            due("raw", 0, x.child(c, 4));
        }
        for (int k = 0; k < 3; k++) {
            due("not lit", NONE, x.kiln(k, 2));
        }
    }

    private static void oneInAPlace() {
        Sentence.ofTerms("A CHILD is RAW, in a KILN or not (at most one in a PLACE), or FIRED, for good.");
        KilnBench x = Check.made("child a clay 1 grit 1;child b clay 1 grit 1;kiln k room 2;");
        x.set(0, 0, 1);
        due("a second one in the place", false, x.set(1, 0, 1));
        due("is not there", 0, x.place(0, 1));
        due("nor elsewhere", NONE, x.child(1, 2));
        due("in the other place", true, x.set(1, 0, 0));
        due("moved to the full one", false, x.set(1, 0, 1));
        due("stays", 0, x.child(1, 3));
        due("both", 2, x.has(4));
    }

    private static void firedForGood() {
        Sentence.ofTerms("or FIRED, for good");
        KilnBench x = oneLit(5, "kiln l room 2;fuel 99;");
        x.weeks(1);
        due("fired", 1, x.child(0, 4));
        due("not set again", false, x.set(0, 0, 0));
        due("nor elsewhere", false, x.set(0, 1, 1));
        due("not taken", false, x.take(0));
        x.light(0, 20);
        due("no second firing", 0, x.weeks(40));
        due("its temper stays", 20, x.child(0, 5));
        due("fired still", 1, x.has(5));
    }

    private static void tempers() {
        Sentence.ofTerms("is the SUM of temper (without it: 4 times the heat), 0 .. 99 (below is 0, above 99)");
        KilnBench x = Check.made("child a clay 30 grit 4;");
        due("without it, least", 0, x.rings(0, 0, 0));
        due("without it", 4, x.rings(0, 1, 0));
        due("without it, greatest", 80, x.rings(0, 20, 5));
        Check.town(x, "child a clay 30 grit 4;temper heat*10-10;");
        due("-10", 0, x.rings(0, 0, 0));
        due("0", 0, x.rings(0, 1, 0));
        due("10", 10, x.rings(0, 2, 0));
        due("90", 90, x.rings(0, 10, 0));
        due("100", 99, x.rings(0, 11, 0));
        due("190", 99, x.rings(0, 20, 0));
        Check.town(x, "child a clay 30 grit 4;temper 98+heat;");
        int[] near = {98, 99, 99, 99};
        for (int heat = 0; heat < near.length; heat++) {
            due("98 and " + heat, near[heat], x.rings(0, heat, 0));
        }
        Check.town(x, "child a clay 30 grit 4;temper heat-2;");
        int[] low = {0, 0, 0, 1};
        for (int heat = 0; heat < low.length; heat++) {
            due(heat + " less 2", low[heat], x.rings(0, heat, 0));
        }
        // What is fired rings so too.
        KilnBench y = oneLit(3, "temper 0-5;fuel 9;");
        y.weeks(1);
        due("fired below 0", 0, y.child(0, 5));
        KilnBench z = oneLit(3, "temper 9999;fuel 9;");
        z.weeks(1);
        due("fired above 99", 99, z.child(0, 5));
    }

    private static void cracking() {
        Sentence.ofTerms("it CRACKS, if the TEST of cracks holds by all that (without it: never)");
        KilnBench x = Check.made("child a clay 30 grit 4;temper heat*9-9;cracks rings>98 or rings=0 and place=3;");
        due("98 at most", 0, x.cracks(0, 11, 0));
        due("99, of 99", 1, x.cracks(0, 12, 0));
        due("99, of more", 1, x.cracks(0, 20, 0));
        due("0, of 0", 1, x.cracks(0, 1, 3));
        due("0, of less", 1, x.cracks(0, 0, 3));
        due("elsewhere", 0, x.cracks(0, 0, 2));
        KilnBench y = oneLit(20, "fuel 99;");
        due("never", 0, y.cracks(0, 20, 5));
        y.weeks(1);
        due("never when fired", 0, y.child(0, 6));
        due("none", 0, y.has(6));
    }

    private static KilnBench three(String more) {
        KilnBench x = Check.made("child a clay 1 grit 1;child b clay 2 grit 2;child c clay 3 grit 3;kiln k room 6;kiln l room 6;fuel 99;" + more);
        return x;
    }

    private static void sticking() {
        Sentence.ofTerms("Two of one firing in PLACES next to one another STICK, if the TEST of sticks holds (without it: never).");
        KilnBench x = three("sticks all;");
        x.set(0, 0, 0);
        x.set(1, 0, 1);
        x.set(2, 0, 3);
        x.light(0, 1);
        x.weeks(1);
        due("next to one another", 3, x.brothers(0));
        due("both ways", 3, x.brothers(1));
        due("with a place between", 4, x.brothers(2));
        KilnBench y = three("sticks all;");
        y.set(0, 0, 5);
        y.set(1, 1, 0);
        y.set(2, 0, 0);
        y.light(0, 1);
        y.light(1, 1);
        y.weeks(1);
        for (int c = 0; c < 3; c++) {
            due("the last place, the first one, another kiln", 1 << c, y.brothers(c));
        }
        // Not those of two firings of one kiln.
        KilnBench z = three("sticks all;");
        z.set(0, 0, 2);
        z.light(0, 1);
        z.weeks(1);
        z.set(1, 0, 3);
        z.light(0, 1);
        z.weeks(1);
        due("of another firing", 1, z.brothers(0));
        due("of another firing too", 2, z.brothers(1));
        for (int week = 2; week <= 4; week++) {
            for (int heat = 5; heat <= 6; heat++) {
                KilnBench v = three("sticks week=3 and heat=5;");
                v.set(0, 0, 0);
                v.set(1, 0, 1);
                v.weeks(week);
                v.light(0, heat);
                v.weeks(1);
                due("in week " + week + " by " + heat, week == 3 && heat == 5 ? 3 : 1, v.brothers(0));
            }
        }
        KilnBench w = three("");
        w.set(0, 0, 4);
        w.set(1, 0, 5);
        w.light(0, 1);
        w.weeks(1);
        due("without it", 1, w.brothers(0));
        due("without it either", 2, w.brothers(1));
    }

    /** Whether two with these clays (their tempers) and grits stick, the first one left of the other or right of it. */
    private static void pairDue(boolean want, String test, int clayA, int clayB, int gritA, int gritB) {
        for (int turned = 0; turned < 2; turned++) {
            KilnBench x = Check.made("child a clay " + clayA + " grit " + gritA + ";child b clay " + clayB + " grit " + gritB
                + ";kiln k room 2;temper clay;sticks " + test + ";");
            x.set(0, 0, turned);
            x.set(1, 0, 1 - turned);
            x.light(0, 0);
            x.weeks(1);
            due(test + " of " + clayA + "/" + gritA + " and " + clayB + "/" + gritB, want ? 3 : 1, x.brothers(0));
        }
    }

    private static void differencesAndGrit() {
        Sentence.ofTerms("of two next to one another by how much their tempers differ, their grit together");
        pairDue(true, "near=99", 99, 0, 1, 1);
        pairDue(true, "near=0", 50, 50, 1, 1);
        pairDue(false, "near=0", 50, 51, 1, 1);
        pairDue(true, "near=1", 50, 51, 1, 1);
        pairDue(false, "near<0", 0, 99, 1, 1);
        pairDue(true, "grits=18", 1, 2, 9, 9);
        pairDue(true, "grits=0", 1, 2, 0, 0);
        pairDue(true, "grits=9", 1, 2, 0, 9);
        pairDue(false, "grits=9", 1, 2, 1, 9);
        Sentence.ofTerms("of a KILN how many PLACES it has, how many CHILDREN are in it");
        KilnBench x = Check.made("child a clay 1 grit 1;child b clay 1 grit 1;child c clay 1 grit 1;child d clay 1 grit 1;child e clay 1 grit 1;"
            + "child f clay 1 grit 1;kiln k room 6;kiln l room 1;burns room*10+full;");
        x.light(0, 1);
        x.light(1, 1);
        due("the smallest", 10, x.kiln(1, 3));
        for (int c = 0; c < 6; c++) {
            due("with " + c, 60 + c, x.kiln(0, 3));
            x.set(c, 0, c);
        }
        due("full", 66, x.kiln(0, 3));
    }

    private static void theYard() {
        Sentence.ofTerms("FIRST what comes is in the yard (9999 at most).");
        KilnBench x = Check.made("fuel 999;load 900;");
        due("ten weeks", 9999, x.fuel(10));
        due("nine weeks", 9099, x.fuel(9));
        due("eleven weeks", 9999, x.fuel(11));
        x.weeks(10);
        due("full to the brim", 9999, x.has(3));
        x.weeks(1);
        due("no more", 9999, x.has(3));
        x.chance(1);
        due("nor by the seed", 9999, x.has(3));
        KilnBench y = Check.made("fuel 998;load 900;");
        y.weeks(10);
        due("one less", 9998, y.has(3));
        y.weeks(1);
        due("then full", 9999, y.has(3));
        // What comes in a week may be burnt in it, but not what is above 9999.
        KilnBench z = oneLit(5, "load 5;");
        due("at once", 1, z.weeks(1));
        due("all gone", 0, z.has(3));
        KilnBench w = oneLit(0, "burns 9999+1-heat;fuel 999;load 999;");
        due("10000 are never there", 0, w.weeks(40));
        due("9999 are", 9999, w.has(3));
        w.light(0, 1);
        due("9999 may burn", 1, w.weeks(1));
        due("to the last", 0, w.has(3));
    }

    private static void whichKilns() {
        Sentence.ofTerms("THEN KILN by KILN that is lit, and in which a CHILD is");
        KilnBench x = three("kiln m room 1;burns 40;");
        x.set(0, 0, 0);
        x.light(1, 5);
        x.set(2, 2, 0);
        x.light(2, 5);
        due("neither one not lit nor an empty one", 1, x.weeks(1));
        due("the one not lit stays full", 0, x.place(0, 0));
        due("the empty one stays lit", 5, x.kiln(1, 2));
        due("what was burnt", 59, x.has(3));
        due("the third is fired", 1, x.child(2, 4));
        KilnBench y = three("kiln m room 1;burns 40;");
        for (int k = 0; k < 3; k++) {
            y.set(k, k, 0);
            y.light(k, 5);
        }
        due("fuel for two", 2, y.weeks(1));
        due("the first", 1, y.child(0, 4));
        due("the second", 1, y.child(1, 4));
        due("not the third", 0, y.child(2, 4));
    }

    private static void comingOut() {
        Sentence.ofTerms("its CHILDREN come out with their tempers, CRACKED or not, STUCK or not;");
        KilnBench x = Check.made("child a clay 0 grit 9;child b clay 99 grit 9;child c clay 98 grit 0;child d clay 98 grit 9;child e clay 0 grit 0;"
            + "child f clay 0 grit 9;child g clay 5 grit 5;kiln k room 6;temper clay+place+week;cracks rings=99;sticks near<3 and grits>8;");
        for (int c = 0; c < 6; c++) {
            x.set(c, 0, 5 - c);
        }
        x.light(0, 0);
        due("one firing", 1, x.weeks(1));
        // From place 0 on: f 0, e 1, d 99 (of 100), c 99 (of 101), b 99 (of 103), a 5.
        int[] temper = {5, 99, 99, 99, 1, 0, NONE};
        int[] cracked = {0, 1, 1, 1, 0, 0, 0};
        int[] brothers = {1, 14, 14, 14, 48, 48, 0};
        for (int c = 0; c < 7; c++) {
            due("fired " + c, c < 6 ? 1 : 0, x.child(c, 4));
            due("temper " + c, temper[c], x.child(c, 5));
            due("cracked " + c, cracked[c], x.child(c, 6));
            due("brothers " + c, brothers[c], x.brothers(c));
        }
    }

    private static void burning() {
        Sentence.ofTerms("it burns as much as the SUM of burns (without it: its heat) tells, 0 at least, by the heat to which it is lit");
        KilnBench x = oneLit(20, "fuel 20;");
        due("its heat", 20, x.kiln(0, 3));
        x.weeks(1);
        due("is burnt", 0, x.has(3));
        KilnBench y = oneLit(0, "");
        due("no heat", 0, y.kiln(0, 3));
        due("is fired without fuel", 1, y.weeks(1));
        int[] burnt = {1, 0, 0, 0};
        for (int heat = 4; heat <= 7; heat++) {
            KilnBench z = oneLit(heat, "burns 5-heat;fuel 7;");
            due("5 less " + heat, burnt[heat - 4], z.kiln(0, 3));
            due("is fired", 1, z.weeks(1));
            due("what is left", 7 - burnt[heat - 4], z.has(3));
        }
        KilnBench w = oneLit(3, "burns 0-9999;");
        due("far below 0", 1, w.weeks(1));
        due("gives none back", 0, w.has(3));
    }

    private static void asMuch() {
        Sentence.ofTerms("if there is as much, that is gone, and it is FIRED");
        for (int there = 11; there <= 13; there++) {
            KilnBench x = oneLit(12, "fuel " + there + ";");
            due("12 of " + there, there >= 12 ? 1 : 0, x.weeks(1));
            due("fired", there >= 12 ? 1 : 0, x.child(0, 4));
            due("left of " + there, there >= 12 ? there - 12 : there, x.has(3));
        }
        Sentence.ofTerms("it is not lit any more, and empty; else it waits as it is.");
        KilnBench y = oneLit(12, "fuel 12;");
        y.weeks(1);
        due("not lit", NONE, y.kiln(0, 2));
        due("empty", 0, y.kiln(0, 1));
        due("nobody", NONE, y.place(0, 0));
        due("out of it", NONE, y.child(0, 2));
        due("and of its place", NONE, y.child(0, 3));
    }

    private static void waiting() {
        Sentence.ofTerms("else it waits as it is");
        KilnBench x = oneLit(12, "fuel 1;load 1;");
        due("ten weeks", 0, x.weeks(10));
        due("lit", 12, x.kiln(0, 2));
        due("full", 0, x.place(0, 0));
        due("raw", 0, x.child(0, 4));
        due("nothing burnt", 11, x.has(3));
        due("then", 1, x.weeks(1));
    }

    private static void lastWeek() {
        Sentence.ofTerms("The WEEK is one more (999 at most).");
        KilnBench x = new KilnBench();
        for (int k = 1; k <= 24; k++) {
            x.weeks(40);
            due("week", 40 * k, x.has(2));
        }
        due("beyond", NONE, x.weeks(40));
        due("to the last", 0, x.weeks(39));
        due("999", 999, x.has(2));
        due("no more", NONE, x.weeks(1));
        due("nor by the seed", NONE, x.chance(1));
        due("still 999", 999, x.has(2));
        x.undo();
        due("960 again", 960, x.has(2));
        due("by the seed too", 0, x.chance(39));
        due("999 again", 999, x.has(2));
    }

    private static void gusts() {
        Sentence.ofTerms("BY THE SEED a WEEK begins with a DRAW of 100: below wind there is a GUST of 1 and a DRAW of 3");
        for (int seed = 0; seed < 40; seed++) {
            int first = seedBehind(seed * 1000003);
            int drawn = first / 64 % 100;
            for (int wind = Math.max(0, drawn - 1); wind <= Math.min(100, drawn + 2); wind++) {
                KilnBench x = oneLit(7, "temper heat;fuel 7;wind " + wind + ";");
                x.seed(seed * 1000003);
                boolean gust = drawn < wind;
                int second = seedBehind(first);
                due(drawn + " by wind " + wind, gust ? 1 : 0, x.chance(1));
                due("temper by that", gust ? 8 + second / 64 % 3 : 7, x.child(0, 5));
                due("one draw, or two", gust ? second : first, x.has(11));
            }
        }
        KilnBench y = Check.made("wind 0;");
        due("by wind 0 never", 0, y.chance(40));
        Check.town(y, "wind 100;");
        due("by wind 100 always", 40, y.chance(40));
        KilnBench z = Check.made("wind 100;");
        z.weeks(40);
        due("weeks alone draw nothing", 1, z.has(11));
    }

    private static void gustsOnTheHeat() {
        Sentence.ofTerms("what is FIRED in it, is so by a heat that is as much more, 20 at most (the fuel by that to which it is lit)");
        for (int heat = 15; heat <= 20; heat++) {
            for (int seed = 0; seed < 12; seed++) {
                int gust = 1 + seedBehind(seedBehind(seed * 99991)) / 64 % 3;
                int more = Math.min(20, heat + gust);
                KilnBench x = oneLit(heat, "temper heat;cracks heat>19;burns heat;fuel " + heat + ";wind 100;");
                x.seed(seed * 99991);
                due("a gust", 1, x.chance(1));
                due(heat + " and " + gust, more, x.child(0, 5));
                due("cracked by that", more == 20 ? 1 : 0, x.child(0, 6));
                due("kept", more, x.kept(0, 2));
                due("burnt by the heat it is lit to", 0, x.has(3));
            }
        }
        KilnBench y = Check.made("child a clay 1 grit 1;child b clay 1 grit 1;kiln k room 2;sticks heat>5;wind 100;fuel 5;");
        y.set(0, 0, 0);
        y.set(1, 0, 1);
        y.light(0, 5);
        y.chance(1);
        due("stuck by that", 3, y.brothers(0));
    }

    private static String eight() {
        StringBuilder text = new StringBuilder("kiln k room 1;kiln l room 6;cracks clay%2=1;sticks all;fuel 999;load 9;");
        for (int c = 0; c < 8; c++) {
            text.append("child ").append((char) ('p' + c)).append(" clay ").append(c).append(" grit 0;");
        }
        return text.toString();
    }

    /** Eight children are eight firings at the most, and what is on tells none: so all that are kept are told. */
    private static void keptAtMost() {
        Sentence.ofTerms("KEPT is each firing: WEEK, KILN, the heat, how many CRACKED (the last 40 are told).");
        KilnBench x = Check.made(eight());
        for (int c = 0; c < 8; c++) {
            x.set(c, 0, 0);
            x.light(0, 2 * c);
            x.weeks(1 + c);
            due("told", c + 1, x.has(8));
        }
        for (int c = 0; c < 8; c++) {
            due("week of " + c, c * (c + 1) / 2, x.kept(c, 0));
            due("kiln of " + c, 0, x.kept(c, 1));
            due("heat of " + c, 2 * c, x.kept(c, 2));
            due("cracked of " + c, c % 2, x.kept(c, 3));
        }
        KilnBench y = Check.made(eight());
        for (int c = 0; c < 6; c++) {
            y.set(c, 1, c);
        }
        y.light(1, 20);
        y.weeks(1);
        due("one firing of six", 1, y.has(8));
        due("three of them cracked", 3, y.kept(0, 3));
    }

    private static void acts() {
        Sentence.ofTerms("The last 20 can be undone.");
        KilnBench x = Check.made("kiln k room 1;");
        for (int k = 1; k <= 45; k++) {
            x.light(0, k % 21);
            due("acts behind " + k, Math.min(20, k), x.has(10));
        }
        for (int k = 45; k > 25; k--) {
            due("undone", true, x.undo());
            due("heat ahead of act " + k, (k - 1) % 21, x.kiln(0, 2));
            due("acts left", k - 26, x.has(10));
        }
        due("no more", false, x.undo());
        due("it stays", 25 % 21, x.kiln(0, 2));
        Sentence.ofTerms("ACTS: WEEKS, by the seed; a RAW CHILD is set to a free PLACE of a KILN, or taken out; a KILN is lit to a heat, or put out.");
        KilnBench y = Check.made("child a clay 1 grit 1;kiln k room 2;");
        y.set(0, 0, 0);
        due("set", 1, y.has(10));
        y.set(0, 0, 1);
        due("set elsewhere", 2, y.has(10));
        y.take(0);
        due("taken", 3, y.has(10));
        y.light(0, 5);
        due("lit", 4, y.has(10));
        y.light(0, NONE);
        due("put out", 5, y.has(10));
        y.weeks(40);
        due("weeks", 6, y.has(10));
        y.chance(40);
        due("by the seed", 7, y.has(10));
        y.seed(5);
        Check.see(y, 0, 0, 0);
        y.image();
        y.best(0, 0);
        y.fuel(40);
        due("all else is none", 7, y.has(10));
        // What is refused is no act.
        y.set(0, 0, 2);
        y.take(0);
        y.light(0, NONE);
        y.light(0, 21);
        y.weeks(0);
        y.weeks(41);
        y.chance(0);
        due("nor is what is refused", 7, y.has(10));
    }

    private static void draws() {
        Sentence.ofTerms("A DRAW of m: x (the seed) becomes (1103515245 x + 12345) mod 2 to the 31; floor(x / 64) mod m.");
        for (int seed : new int[] {0, 1, 2, 12345, 1 << 30, Integer.MAX_VALUE - 1, Integer.MAX_VALUE}) {
            java.math.BigInteger next = java.math.BigInteger.valueOf(1103515245L).multiply(java.math.BigInteger.valueOf(seed))
                .add(java.math.BigInteger.valueOf(12345)).mod(java.math.BigInteger.ONE.shiftLeft(31));
            KilnBench x = new KilnBench();
            x.seed(seed);
            x.chance(1);
            due("behind " + seed, next.intValueExact(), x.has(11));
        }
        KilnBench y = new KilnBench();
        int seed = 1;
        for (int k = 0; k < 24; k++) {
            y.chance(40);
            for (int n = 0; n < 40; n++) {
                seed = seedBehind(seed);
            }
            due("behind 40 more", seed, y.has(11));
            due("never below 0", true, y.has(11) >= 0);
        }
    }

    // ---- promises 24 and 25

    private static void weeks() {
        Sentence.of(24, "n WEEKS go by (1 .. 40), without DRAWS: how many firings");
        KilnBench x = Check.made("child a clay 1 grit 1;child b clay 1 grit 1;kiln k room 1;kiln l room 1;fuel 8;load 1;wind 100;");
        due("one", 0, x.weeks(1));
        due("one more", 1, x.has(2));
        x.set(0, 0, 0);
        x.set(1, 1, 0);
        x.light(0, 9);
        x.light(1, 20);
        due("forty", 2, x.weeks(40));
        due("forty more", 41, x.has(2));
        due("no draws", 1, x.has(11));
        due("no gusts", 36, x.child(0, 5));
        Sentence.of(24, "NONE, refused (2), when it can't be (beyond WEEK 999).");
        int[] wrong = {0, -1, 41, 999, 1000, Integer.MAX_VALUE, Integer.MIN_VALUE};
        for (int k = 0; k < wrong.length; k++) {
            due(wrong[k] + " weeks", NONE, x.weeks(wrong[k]));
            due("refused", k + 1, x.status(2));
            due("the week stays", 41, x.has(2));
            due("no act", 6, x.has(10));
        }
        KilnBench y = Check.made("load 3;");
        goTo(y, 998);
        due("two from 998 on", NONE, y.weeks(2));
        due("one from 998 on", 0, y.weeks(1));
        due("one from 999 on", NONE, y.weeks(1));
        due("refused", 2, y.status(2));
        due("the fuel stays", 3, y.has(3));
        goTo(y, 959);
        due("forty to 999", 0, y.weeks(40));
        due("999", 999, y.has(2));
        goTo(y, 960);
        due("forty beyond", NONE, y.weeks(40));
        due("960", 960, y.has(2));
    }

    private static void chance() {
        Sentence.of(25, "n WEEKS by the seed (1 .. 40), one ACT: how many GUSTS");
        KilnBench x = Check.made("wind 100;");
        due("one", 1, x.chance(1));
        due("two draws", seedBehind(seedBehind(1)), x.has(11));
        due("forty", 40, x.chance(40));
        due("forty more", 41, x.has(2));
        due("two acts", 2, x.has(10));
        due("undone", true, x.undo());
        due("as ahead of all forty", 1, x.has(2));
        int seed = x.has(11);
        Sentence.of(25, "NONE, refused (2), when it can't be.");
        int[] wrong = {0, -1, 41, 1000, Integer.MAX_VALUE, Integer.MIN_VALUE};
        for (int k = 0; k < wrong.length; k++) {
            due(wrong[k] + " weeks", NONE, x.chance(wrong[k]));
            due("refused", k + 1, x.status(2));
            due("the week stays", 1, x.has(2));
            due("the seed stays", seed, x.has(11));
            due("no act", 1, x.has(10));
        }
        KilnBench y = Check.made("wind 100;");
        goTo(y, 998);
        due("two from 998 on", NONE, y.chance(2));
        due("one from 998 on", 1, y.chance(1));
        due("one from 999 on", NONE, y.chance(1));
        goTo(y, 959);
        due("forty to 999", 40, y.chance(40));
        goTo(y, 960);
        int stays = y.has(11);
        due("forty beyond", NONE, y.chance(40));
        due("without draws", stays, y.has(11));
        due("refused", 3, y.status(2));
    }

    // ---- promises 26 to 28

    private static void set() {
        Sentence.of(26, "A RAW CHILD (in a KILN or not) is set to a PLACE: true");
        KilnBench x = Check.made("child a clay 1 grit 1;child b clay 1 grit 1;kiln k room 1;kiln l room 6;");
        due("the first place", true, x.set(0, 0, 0));
        due("to the last place of another kiln", true, x.set(0, 1, 5));
        due("its kiln", 1, x.child(0, 2));
        due("its place", 5, x.child(0, 3));
        due("nobody is left", NONE, x.place(0, 0));
        due("within the kiln", true, x.set(0, 1, 4));
        due("free again", true, x.set(1, 1, 5));
        x.light(1, 5);
        due("while it is lit", true, x.set(1, 1, 0));
        Sentence.of(26, "false, refused (3), when it is FIRED, the PLACE is not free, or there are none such.");
        KilnBench y = Check.made("child a clay 1 grit 1;child b clay 1 grit 1;child c clay 1 grit 1;kiln k room 1;kiln l room 6;");
        y.set(0, 0, 0);
        y.light(0, 0);
        y.weeks(1);
        y.set(1, 1, 2);
        int[][] wrong = {{0, 0, 0}, {0, 1, 5}, {2, 1, 2}, {1, 1, 2}, {-1, 0, 0}, {3, 0, 0}, {1, -1, 0}, {1, 2, 0}, {1, 0, -1}, {1, 0, 1}, {1, 1, 6},
            {1, 1, -1}, {-1, -1, -1}, {2, -1, -1}, {Integer.MAX_VALUE, 0, 0}, {1, Integer.MAX_VALUE, 0}, {1, 1, Integer.MAX_VALUE},
            {Integer.MIN_VALUE, 0, 0}, {1, Integer.MIN_VALUE, 0}, {1, 1, Integer.MIN_VALUE}};
        for (int k = 0; k < wrong.length; k++) {
            due("set " + wrong[k][0] + " " + wrong[k][1] + " " + wrong[k][2], false, y.set(wrong[k][0], wrong[k][1], wrong[k][2]));
            due("refused", k + 1, y.status(3));
            due("no act", 4, y.has(10));
            due("in kilns", 1, y.has(4));
            due("stays", 2, y.child(1, 3));
        }
        KilnBench z = new KilnBench();
        due("without a town", false, z.set(0, 0, 0));
    }

    private static void take() {
        Sentence.of(27, "A CHILD is taken out: true");
        KilnBench x = Check.made("child a clay 1 grit 1;child b clay 1 grit 1;kiln k room 2;");
        x.set(1, 0, 1);
        x.light(0, 3);
        due("out of a lit kiln", true, x.take(1));
        due("nobody", NONE, x.place(0, 1));
        due("no kiln", NONE, x.child(1, 2));
        due("no place", NONE, x.child(1, 3));
        due("raw", 0, x.child(1, 4));
        due("in kilns", 0, x.has(4));
        Sentence.of(27, "false, refused (3), when it is in no KILN, or there is none such.");
        int[] wrong = {0, 1, -1, 2, Integer.MAX_VALUE, Integer.MIN_VALUE};
        for (int k = 0; k < wrong.length; k++) {
            due("take " + wrong[k], false, x.take(wrong[k]));
            due("refused", k + 1, x.status(3));
            due("no act", 3, x.has(10));
        }
        x.set(0, 0, 0);
        x.light(0, 0);
        x.weeks(1);
        due("a fired one", false, x.take(0));
        due("refused", wrong.length + 1, x.status(3));
    }

    private static void light() {
        Sentence.of(28, "A KILN is lit to a heat (0 .. 20), or put out (NONE): true");
        KilnBench x = Check.made("kiln k room 2;kiln l room 1;kiln m room 1;");
        due("the least", true, x.light(0, 0));
        due("is lit", 0, x.kiln(0, 2));
        due("the greatest", true, x.light(2, 20));
        due("is that", 20, x.kiln(2, 2));
        due("to another heat", true, x.light(2, 19));
        due("lit", 2, x.has(7));
        due("put out", true, x.light(0, NONE));
        due("is out", NONE, x.kiln(0, 2));
        Sentence.of(28, "false, refused (3), when it is so already, there is none such, or for others.");
        int[][] wrong = {{2, 19}, {0, NONE}, {1, NONE}, {0, 21}, {0, -2}, {2, 21}, {2, -2}, {-1, 5}, {3, 5}, {-1, NONE}, {3, NONE}, {0, Integer.MAX_VALUE},
            {0, Integer.MIN_VALUE}, {Integer.MAX_VALUE, 5}, {Integer.MIN_VALUE, 5}};
        for (int k = 0; k < wrong.length; k++) {
            due("light " + wrong[k][0] + " " + wrong[k][1], false, x.light(wrong[k][0], wrong[k][1]));
            due("refused", k + 1, x.status(3));
            due("no act", 4, x.has(10));
            due("lit", 1, x.has(7));
            due("stays", 19, x.kiln(2, 2));
        }
        x.light(0, 0);
        due("to 0 already", false, x.light(0, 0));
    }

    // ---- promises 29 to 31

    private static void allDue(String what, int[] image, KilnBench x) {
        int[] is = Check.image(x);
        due(what + " length", image.length, is.length);
        for (int k = 0; k < image.length; k++) {
            due(what + " byte " + k, image[k], is[k]);
        }
    }

    private static void undo() {
        Sentence.of(29, "The latest ACT is undone: all is as it was ahead of it (but the seed): true");
        KilnBench x = Check.made("child a clay 1 grit 1;child b clay 1 grit 1;child c clay 1 grit 1;kiln k room 2;kiln l room 1;sticks all;"
            + "cracks place=1;fuel 20;load 2;wind 100;");
        int[][] images = new int[7][];
        images[0] = Check.image(x);
        x.set(0, 0, 0);
        images[1] = Check.image(x);
        x.set(1, 0, 1);
        images[2] = Check.image(x);
        x.light(0, 7);
        images[3] = Check.image(x);
        x.chance(2);
        images[4] = Check.image(x);
        x.set(2, 1, 0);
        images[5] = Check.image(x);
        x.take(2);
        images[6] = Check.image(x);
        int seed = x.has(11);
        x.weeks(40);
        due("kept", 1, x.has(8));
        for (int k = 6; k >= 0; k--) {
            due("undone", true, x.undo());
            allDue("ahead of act " + k, images[k], x);
            due("kept ahead of act " + k, k > 3 ? 1 : 0, x.has(8));
            due("acts ahead of act " + k, k, x.has(10));
            due("the seed stays", seed, x.has(11));
        }
        KilnBench y = oneLit(3, "cracks all;fuel 9;");
        y.weeks(5);
        due("kept", 1, y.has(8));
        y.undo();
        due("not kept", 0, y.has(8));
        due("raw again", 0, y.child(0, 4));
        due("not cracked", 0, y.has(6));
        due("set again", 0, y.place(0, 0));
        due("lit again", 3, y.kiln(0, 2));
        y.weeks(1);
        due("kept again", 1, y.has(8));
        due("of that week", 0, y.kept(0, 0));
        KilnBench v = oneLit(3, "kiln l room 3;");
        v.set(0, 1, 0);
        due("best behind the act", 0, v.best(1, 4));
        due("none is in the other", NONE, v.best(0, 2));
        v.undo();
        due("best ahead of it", 0, v.best(0, 2));
        v.take(0);
        due("none is in it", NONE, v.best(0, 2));
        v.undo();
        due("best ahead of that", 0, v.best(0, 2));
        Sentence.of(29, "false, refused (4), when none can be.");
        KilnBench z = new KilnBench();
        due("at first", false, z.undo());
        due("refused", 1, z.status(4));
        z.weeks(1);
        due("the one", true, z.undo());
        due("and no more", false, z.undo());
        due("refused", 2, z.status(4));
        due("week", 0, z.has(2));
        z.weeks(1);
        z.town();
        due("behind a town", false, z.undo());
        z.weeks(1);
        Check.on(z, Check.sealed(0, 7, 0, 0, 0));
        due("behind an image", false, z.undo());
        due("refused", 4, z.status(4));
        due("week 7", 7, z.has(2));
        for (int k = 0; k < 21; k++) {
            z.weeks(1);
        }
        for (int k = 0; k < 20; k++) {
            due("one of twenty", true, z.undo());
        }
        due("the 21st", false, z.undo());
        due("week 8", 8, z.has(2));
        due("refused", 5, z.status(4));
    }

    private static void seed() {
        Sentence.of(30, "The seed: true; false, refused (5), when it is below 0.");
        KilnBench x = new KilnBench();
        due("0", true, x.seed(0));
        due("is 0", 0, x.has(11));
        due("greatest", true, x.seed(Integer.MAX_VALUE));
        due("is that", Integer.MAX_VALUE, x.has(11));
        due("none refused", 0, x.status(5));
        due("-1", false, x.seed(-1));
        due("refused", 1, x.status(5));
        due("least", false, x.seed(Integer.MIN_VALUE));
        due("refused", 2, x.status(5));
        due("it stays", Integer.MAX_VALUE, x.has(11));
        due("no act", 0, x.has(10));
    }

    private static void kept() {
        Sentence.of(31, "Of what is told as KEPT, the k-th from the oldest on: 0 WEEK, 1 KILN, 2 the heat, 3 how many CRACKED.");
        KilnBench x = Check.made("child a clay 1 grit 1;child b clay 1 grit 1;child c clay 1 grit 1;kiln k room 1;kiln l room 2;cracks heat>9;fuel 99;");
        goTo(x, 997);
        x.set(0, 0, 0);
        x.set(1, 1, 0);
        x.set(2, 1, 1);
        x.light(1, 20);
        x.weeks(1);
        x.light(0, 0);
        x.weeks(1);
        int[][] want = {{997, 1, 20, 2}, {998, 0, 0, 0}};
        for (int k = 0; k < 2; k++) {
            for (int what = 0; what < 4; what++) {
                due(k + " " + what, want[k][what], x.kept(k, what));
            }
        }
        Sentence.of(31, "NONE when there is none such, or for others.");
        for (int what = -2; what < 6; what++) {
            due("the third " + what, NONE, x.kept(2, what));
            due("below " + what, NONE, x.kept(-1, what));
        }
        for (int other : new int[] {-1, 4, 5, Integer.MAX_VALUE, Integer.MIN_VALUE}) {
            due("what " + other, NONE, x.kept(0, other));
            due("what " + other + " of the second", NONE, x.kept(1, other));
        }
        due("far", NONE, x.kept(Integer.MAX_VALUE, 0));
        due("far below", NONE, x.kept(Integer.MIN_VALUE, 0));
        due("40", NONE, x.kept(40, 0));
        x.undo();
        due("undone", NONE, x.kept(1, 0));
        due("nothing at first", NONE, new KilnBench().kept(0, 0));
    }
}
