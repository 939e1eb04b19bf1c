/** The tape and the text: each sentence of the terms I and of promises 2 to 5 that names a boundary, on both sides of it. */
public final class BoundariesOfTextTest {
    private static final int NONE = KilnBench.NONE;
    private static final String[] OWN_WORDS = {"child", "clay", "grit", "kiln", "room", "temper", "cracks", "sticks", "burns", "fuel",
        "load", "wind", "heat", "week", "place", "rings", "near", "grits", "full", "if", "or", "and", "not", "all", "min", "max"};

    public static void main(String[] args) {
        statements();
        childrenOfAText();
        kilnsOfAText();
        oneEach();
        stores();
        wordsOfEachSum();
        whatTheWordsTell();
        sumsAndProducts();
        bothAndOr();
        choices();
        comparisons();
        fractions();
        greatResults();
        names();
        numbers();
        blanks();
        ownWords();
        firstFault();
        wrongBytes();
        endsTooSoon();
        seventhLetterFifthDigit();
        nameTwice();
        numberThatCannotBe();
        eighthOpen();
        oneTooMany();
        feed();
        end();
        town();
        townWithAFault();
        townWithoutAFault();
        fault();
        Sentence.haveBeen(2, 5);
        Sentence.finish("BoundariesOfTextTest");
    }

    private static void due(String what, long want, long got) {
        Sentence.due(what, want, got);
    }

    private static void due(String what, boolean want, boolean got) {
        Sentence.due(what, want, got);
    }

    private static void good(int statements, String text) {
        KilnBench x = new KilnBench();
        due("statements of " + text, statements, Check.town(x, text));
        due("no fault in " + text, 0, x.fault(0));
        due("no place in " + text, NONE, x.fault(1));
    }

    private static void bad(int kind, int place, String text) {
        KilnBench x = new KilnBench();
        due("no town is " + text, NONE, Check.town(x, text));
        due("fault in " + text, kind, x.fault(0));
        due("its place in " + text, place, x.fault(1));
    }

    /** The sign, whatever its byte, as a text. */
    private static String sign(int number) {
        return String.valueOf((char) number);
    }

    /** The sum for clay 30, grit 4, the heat 10, place 2, week 0. */
    private static int sum(String text) {
        return Check.made("child a clay 30 grit 4;temper " + text + ";").rings(0, 10, 2);
    }

    private static int test(String text) {
        return Check.made("child a clay 30 grit 4;cracks " + text + ";").cracks(0, 10, 2);
    }

    private static String children(int count) {
        StringBuilder text = new StringBuilder();
        for (int c = 0; c < count; c++) {
            text.append("child ").append((char) ('a' + c)).append(" clay 1 grit 1;");
        }
        return text.toString();
    }

    private static String kilns(int count) {
        StringBuilder text = new StringBuilder();
        for (int k = 0; k < count; k++) {
            text.append("kiln ").append((char) ('x' + k)).append(" room 1;");
        }
        return text.toString();
    }

    // ---- terms I: what there may be

    private static void statements() {
        Sentence.ofTerms("{ STATEMENT ; } (80 at most)");
        good(0, "");
        good(0, "  \n");
        good(1, "fuel 1;");
        good(79, "fuel 1;".repeat(79));
        good(80, "fuel 1;".repeat(80));
        bad(6, 560, "fuel 1;".repeat(81));
        bad(1, 6, "fuel 1");
        bad(1, 7, "fuel 1;;");
        bad(1, 0, ";");
        // All kinds count together.
        String kinds = children(8) + kilns(3) + "temper 1;cracks all;sticks all;burns 1;";
        good(80, kinds + "wind 1;".repeat(65));
        bad(6, kinds.length() + 65 * 7, kinds + "wind 1;".repeat(66));
    }

    private static void childrenOfAText() {
        Sentence.ofTerms("child NAME clay N grit N (0 .. 99; 0 .. 9; 8 CHILDREN)");
        KilnBench x = Check.made("child a clay 0 grit 0;child b clay 99 grit 9;");
        due("least clay", 0, x.child(0, 0));
        due("least grit", 0, x.child(0, 1));
        due("greatest clay", 99, x.child(1, 0));
        due("greatest grit", 9, x.child(1, 1));
        bad(4, 13, "child a clay 100 grit 1;");
        bad(4, 13, "child a clay 9999 grit 1;");
        bad(4, 20, "child a clay 1 grit 10;");
        bad(4, 20, "child a clay 1 grit 9999;");
        good(8, children(8));
        bad(6, 8 * 22, children(9));
        due("eight", 8, Check.made(children(8)).has(0));
    }

    private static void kilnsOfAText() {
        Sentence.ofTerms("kiln NAME room N (1 .. 6 PLACES, 0 and on; 3 KILNS)");
        bad(4, 12, "kiln k room 0;");
        bad(4, 12, "kiln k room 7;");
        bad(4, 12, "kiln k room 9999;");
        good(3, kilns(3));
        bad(6, 3 * 14, kilns(4));
        due("three", 3, Check.made(kilns(3)).has(1));
        for (int room = 1; room <= 6; room++) {
            KilnBench x = Check.made("child a clay 1 grit 1;kiln k room " + room + ";");
            due("room", room, x.kiln(0, 0));
            due("no place below 0", false, x.set(0, 0, -1));
            due("no place " + room, false, x.set(0, 0, room));
            due("the last place", true, x.set(0, 0, room - 1));
            due("the first place", room > 1, x.set(0, 0, 0));
        }
    }

    private static void oneEach() {
        Sentence.ofTerms("temper SUM, cracks TEST, sticks TEST, burns SUM (one each)");
        good(4, "temper 1;cracks all;sticks all;burns 1;");
        bad(6, 9, "temper 1;temper 1;");
        bad(6, 11, "cracks all;cracks all;");
        bad(6, 11, "sticks all;sticks all;");
        bad(6, 8, "burns 1;burns 1;");
        bad(6, 17, "temper 1;burns 1;temper 1;");
        bad(6, 22, "cracks all;sticks all;cracks all;");
    }

    private static void stores() {
        Sentence.ofTerms("fuel N, load N (0 .. 999 each), wind N (0 .. 100)");
        good(3, "fuel 0;load 0;wind 0;");
        good(3, "fuel 999;load 999;wind 100;");
        due("fuel 999", 999, Check.made("fuel 999;").has(3));
        due("load 999", 999, Check.made("load 999;").fuel(1));
        due("wind 100", 40, Check.made("wind 100;").chance(40));
        bad(4, 5, "fuel 1000;");
        bad(4, 5, "load 1000;");
        bad(4, 5, "wind 101;");
        bad(4, 5, "wind 999;");
        Sentence.ofTerms("the last one of each counts (0 without)");
        KilnBench still = Check.made("child a clay 1 grit 1;kiln k room 1;cracks heat=5;fuel 5;");
        still.set(0, 0, 0);
        still.light(0, 5);
        due("not one row with a gust", 300, still.odds(0));
        KilnBench x = Check.made("fuel 5;load 7;wind 100;fuel 3;load 2;wind 0;");
        due("the last fuel", 3, x.has(3));
        due("the last load", 5, x.fuel(1));
        due("the last wind", 0, x.chance(40));
        KilnBench y = Check.made("fuel 3;fuel 0;load 2;load 0;wind 0;wind 100;");
        due("the last fuel, 0", 0, y.has(3));
        due("the last load, 0", 0, y.fuel(1));
        due("the last wind, 100", 40, y.chance(40));
        KilnBench z = Check.made("kiln k room 1;");
        due("without fuel", 0, z.has(3));
        due("without load", 0, z.fuel(40));
        due("without wind", 0, z.chance(40));
    }

    // ---- terms I: sums and tests

    private static void wordsOfEachSum() {
        Sentence.ofTerms("PART: N; heat; week; in temper, cracks: clay; grit; place; in cracks: rings; in sticks: near; grits; in burns: room; full");
        String[] kinds = {"temper", "cracks", "sticks", "burns"};
        String[] mayStand = {" heat week clay grit place ", " heat week clay grit place rings ", " heat week near grits ", " heat week room full "};
        for (int k = 0; k < kinds.length; k++) {
            boolean isTest = k == 1 || k == 2;
            for (String word : OWN_WORDS) {
                boolean goesOn = " if min max ".contains(" " + word + " ") || isTest && " not all ".contains(" " + word + " ");
                String text = kinds[k] + " " + word + (isTest ? "=1;" : ";");
                if (mayStand[k].contains(" " + word + " ")) {
                    good(1, text);
                } else if (!goesOn) {
                    bad(1, kinds[k].length() + 1, text);
                }
            }
            bad(1, kinds[k].length() + 1, kinds[k] + " nobody" + (isTest ? "=1;" : ";"));
        }
    }

    private static void whatTheWordsTell() {
        Sentence.ofTerms("(The heat; the WEEK; of a CHILD its clay, its grit, its PLACE, the temper with which it comes out;");
        KilnBench x = Check.made("child a clay 0 grit 0;child b clay 99 grit 9;temper clay+grit+place+heat-28-week;cracks rings=99 or rings=8 and clay>9;");
        due("the greatest of each", 99, x.rings(1, 14, 5));
        due("one less", 98, x.rings(1, 14, 4));
        due("the least of each", 0, x.rings(0, 0, 0));
        due("cracks by 99", 1, x.cracks(1, 20, 5));
        due("not by 98", 0, x.cracks(1, 14, 4));
        Check.town(x, "child a clay 1 grit 1;temper week-900;");
        due("week 0", 0, x.rings(0, 0, 0));
        for (int k = 0; k < 24; k++) {
            x.weeks(40);
        }
        due("week 960", 60, x.rings(0, 0, 0));
        x.weeks(39);
        due("week 999", 99, x.rings(0, 0, 0));
    }

    private static void sumsAndProducts() {
        Sentence.ofTerms("SUM: PRODUCT { + or - PRODUCT }. PRODUCT: PART { * or / or % PART }.");
        due("one part", 7, sum("7"));
        due("products first", 14, sum("2+3*4"));
        due("products first on the left", 10, sum("2*3+4"));
        due("/ ahead of -", 8, sum("10-4/2"));
        due("% ahead of +", 11, sum("10+7%3"));
        bad(1, 7, "temper ;");
        bad(1, 7, "temper +1;");
        bad(1, 9, "temper 1-;");
        bad(1, 9, "temper 1*;");
        bad(1, 9, "temper 1+*2;");
        bad(1, 9, "temper 1--2;");
        Sentence.ofTerms("( SUM ) ; min ( SUM , SUM ) ; max ( SUM , SUM ) ;");
        due("( )", 20, sum("(2+3)*4"));
        due("min of the first", 3, sum("min(3,4)"));
        due("min of the second", 3, sum("min(4,3)"));
        due("min of like ones", 4, sum("min(4,4)"));
        due("max of the first", 4, sum("max(4,3)"));
        due("max of the second", 4, sum("max(3,4)"));
        due("of sums below 0", 49, sum("50+max(0-2,0-1)"));
        bad(1, 8, "temper ();");
        bad(1, 9, "temper (1;");
        bad(1, 14, "temper min(1,2;");
        bad(1, 13, "temper min(1 2);");
        bad(1, 12, "temper min(1);");
        bad(1, 14, "temper max(1,2,3);");
        bad(1, 11, "temper min(,1);");
        bad(1, 10, "temper max;");
        Sentence.ofTerms("All from the left on");
        due("-", 5, sum("10-3-2"));
        due("- and +", 9, sum("10-3+2"));
        due("/", 2, sum("20/5/2"));
        due("/ and *", 8, sum("20/5*2"));
        due("* and /", 6, sum("5*5/4"));
        due("%", 2, sum("17%5%3"));
        due("% and *", 2, sum("17%5*6%10"));
    }

    private static void bothAndOr() {
        Sentence.ofTerms("TEST: BOTH { or BOTH }. BOTH: FACT { and FACT }. FACT: not FACT; [ TEST ] ; all;");
        due("all", 1, test("all"));
        due("not all", 0, test("not all"));
        due("not not all", 1, test("not not all"));
        due("or of none", 0, test("1=2 or 1=3"));
        due("or of the first", 1, test("1=1 or 1=3"));
        due("or of the last of three", 1, test("1=2 or 1=3 or all"));
        due("and of both", 1, test("all and 1=1"));
        due("and without the last of three", 0, test("all and all and 1=2"));
        due("and ahead of or", 1, test("all or all and not all"));
        due("and ahead of or on the left", 1, test("not all and all or all"));
        due("[ ]", 0, test("[all or all] and not all"));
        due("not of its fact alone", 1, test("not 1=2 or 1=2"));
        due("not of its fact alone, and", 0, test("not all and not all"));
        due("not of [ ]", 0, test("not [1=2 or all]"));
        bad(1, 7, "cracks ;");
        bad(1, 8, "cracks [];");
        bad(1, 11, "cracks [all;");
        bad(1, 11, "cracks [all);");
        bad(1, 13, "cracks all or;");
        bad(1, 14, "cracks all and;");
        bad(1, 10, "cracks not;");
        bad(1, 7, "cracks or all;");
        bad(1, 11, "cracks all not all;");
        bad(1, 10, "cracks all=1;");
    }

    private static void choices() {
        Sentence.ofTerms("if ( TEST , SUM , SUM ) (the first SUM where the TEST holds, else the second one)");
        due("it holds", 1, sum("if(heat=10,1,2)"));
        due("it does not", 2, sum("if(heat=11,1,2)"));
        due("it does not either", 2, sum("if(heat=9,1,2)"));
        bad(1, 11, "temper if(1,2,3);");
        bad(1, 17, "temper if(all,1,2,3);");
        bad(1, 15, "temper if(all,1);");
        bad(1, 14, "temper if(all 1,2);");
        bad(1, 16, "temper if(all,1 2);");
    }

    private static void comparisons() {
        Sentence.ofTerms("SUM SIGN SUM, SIGN < or > or = .");
        int[][] pairs = {{4, 5}, {5, 5}, {6, 5}};
        for (int[] p : pairs) {
            due(p[0] + "<" + p[1], p[0] < p[1] ? 1 : 0, test(p[0] + "<" + p[1]));
            due(p[0] + ">" + p[1], p[0] > p[1] ? 1 : 0, test(p[0] + ">" + p[1]));
            due(p[0] + "=" + p[1], p[0] == p[1] ? 1 : 0, test(p[0] + "=" + p[1]));
        }
        due("below 0", 1, test("0-1<0"));
        bad(1, 9, "cracks 1<=2;");
        bad(1, 9, "cracks 1==2;");
        bad(1, 8, "cracks 1;");
        bad(1, 10, "cracks 1<2<3;");
    }

    private static void fractions() {
        Sentence.ofTerms("/ gives the greatest whole number not above, % what is left (a less b times that)");
        int[] some = {-9, -8, -7, -6, -1, 0, 1, 6, 7, 8, 9};
        for (int a : some) {
            for (int b : new int[] {-3, -1, 1, 3}) {
                String pair = (a < 0 ? "(0-" + -a + ")" : "(" + a + ")");
                String by = b < 0 ? "(0-" + -b + ")" : "" + b;
                int quotient = (int) Math.floor((double) a / b);
                due(pair + "/" + by, 50 + quotient, sum("50+" + pair + "/" + by));
                due(pair + "%" + by, 50 + a - b * quotient, sum("50+" + pair + "%" + by));
            }
        }
        due("of the least number", 6, sum("(0-1000*1000)%7"));
        due("by the least number", 50 - 1, sum("50+1/(0-1000*1000)"));
        Sentence.ofTerms("by 0 both give 0");
        for (String a : new String[] {"7", "0", "(0-7)", "heat"}) {
            due(a + "/0", 50, sum("50+" + a + "/0"));
            due(a + "%0", 50, sum("50+" + a + "%0"));
            due(a + "/(heat-10)", 50, sum("50+" + a + "/(heat-10)"));
            due(a + "%(heat-10)", 50, sum("50+" + a + "%(heat-10)"));
        }
    }

    private static void greatResults() {
        Sentence.ofTerms("each result above 10 to the 6 is that, below -10 to the 6 likewise");
        due("10 to the 6 stays", 51, sum("1000*1000-999*1001+50"));
        due("one less stays", 50, sum("999*1001-999*1000-999+50"));
        due("one more by +", 50, sum("1000*1000+1-1000*1000+50"));
        due("one more by -", 50, sum("1000*1000-(0-1)-1000*1000+50"));
        due("more by *", 50, sum("1001*1000-1000*1000+50"));
        due("far more by *", 50, sum("(1000*1000)*(1000*1000)-1000*1000+50"));
        due("a wrapped one by *", 50, sum("1000*1000*4295-1000*1000+50"));
        due("more in min", 50, sum("min(9999*9999,9999*9999)-1000*1000+50"));
        due("-10 to the 6 stays", 49, sum("999*1001-1000*1000+50"));
        due("less by -", 50, sum("0-1000*1000-1+1000*1000+50"));
        due("less by +", 50, sum("(0-1000*1000)+(0-1)+1000*1000+50"));
        due("less by *", 50, sum("(0-1001)*1000+1000*1000+50"));
        due("far less by *", 50, sum("(0-1000*1000)*(1000*1000)+1000*1000+50"));
        due("less by /", 50, sum("(1000*1000)/(0-1)+1000*1000+50"));
        due("in tests too", 1, test("1001*1000=1000*1000"));
        due("and in burns", 1000000, burnt("9999*9999"));
        due("as much as that", 999999, burnt("999*1001"));
    }

    private static int burnt(String text) {
        KilnBench x = Check.made("kiln k room 1;burns " + text + ";");
        x.light(0, 1);
        return x.kiln(0, 3);
    }

    // ---- terms I: names, numbers, blanks, own words

    private static void names() {
        Sentence.ofTerms("NAMES: 1 to 6 letters, unlike ones (of both sorts).");
        good(1, "child a clay 1 grit 1;");
        good(1, "kiln z room 1;");
        good(1, "child abcxyz clay 1 grit 1;");
        good(1, "kiln zzzzzz room 1;");
        bad(1, 12, "child abcdefg clay 1 grit 1;");
        bad(1, 11, "kiln zzzzzzz room 1;");
        bad(1, 6, "child ;");
        for (int letter : new int[] {'A', 'Z', 'a' - 1, 'z' + 1, '_', 225, 'a' + 128}) {
            bad(1, 6, "child " + sign(letter) + " clay 1 grit 1;");
            bad(1, 7, "child a" + sign(letter) + " clay 1 grit 1;");
        }
        bad(2, 28, "child a clay 1 grit 1;child a clay 1 grit 1;");
        bad(2, 27, "child a clay 1 grit 1;kiln a room 1;");
        bad(2, 20, "kiln a room 1;child a clay 1 grit 1;");
        bad(2, 19, "kiln a room 1;kiln a room 1;");
        bad(2, 33, "child abcdef clay 1 grit 1; kiln abcdef room 1;");
        good(4, "kiln a room 1;kiln aa room 1;child aaa clay 1 grit 1;child aaaaaa clay 1 grit 1;");
        good(3, "child abcdef clay 1 grit 1;child abcdeg clay 1 grit 1;kiln bbcdef room 1;");
        // A name that is alike to the last one of eight, and to the last one of three.
        bad(2, 8 * 22 + 5, children(8) + "kiln h room 1;");
        bad(2, 3 * 14 + 6, kilns(3) + "child z clay 1 grit 1;");
    }

    private static void numbers() {
        Sentence.ofTerms("NUMBERS: 1 to 4 digits.");
        due("one digit", 7, sum("7"));
        due("the least", 0, sum("0000"));
        due("four digits", 99, sum("9999/101"));
        due("four digits with 0 ahead", 12, sum("0012"));
        good(1, "fuel 0999;");
        bad(1, 9, "fuel 00999;");
        bad(1, 11, "temper 10000;");
        bad(1, 11, "temper 00000;");
        bad(1, 5, "fuel ;");
        bad(1, 5, "fuel " + sign('0' - 1) + ";");
        bad(1, 5, "fuel " + sign('9' + 1) + ";");
        bad(1, 6, "fuel 1" + sign('9' + 1) + ";");
        bad(1, 5, "fuel " + sign('0' + 128) + ";");
    }

    private static void blanks() {
        Sentence.ofTerms("Blanks (10, 32) are where one likes (words and numbers side by side need one)");
        good(1, "\n \nfuel\n \n7 \n;\n ");
        good(2, "fuel 7\n;load\n3;");
        good(1, "temper ( 1 + 2 ) * min ( 3 , 4 ) / heat % week ;");
        good(1, "temper(1+2)*min(3,4)/heat%week;");
        good(1, "cracks[1<2]and not[rings>1]or not(1)<2;");
        for (int other : new int[] {0, 9, 11, 12, 13, 31, 33, 160, 138, 255}) {
            bad(1, 0, sign(other) + "fuel 7;");
            bad(1, 4, "fuel" + sign(other) + "7;");
            bad(1, 6, "fuel 7" + sign(other) + ";");
            bad(1, 7, "fuel 7;" + sign(other));
        }
        bad(1, 4, "fuel7;");
        bad(1, 14, "child a clay 1grit 1;");
        bad(1, 7, "child a1 clay 1 grit 1;");
        bad(1, 10, "cracks 1<2or all;");
        bad(1, 13, "cracks all or1<2;");
        bad(1, 10, "cracks not1<2;");
        bad(1, 5, "child12345 clay 1 grit 1;");
        bad(1, 7, "child a12345 clay 1 grit 1;");
        bad(1, 14, "child a clay 1abcdefg 1;");
        // A blank inside parts what it stands in.
        bad(1, 0, "fu el 7;");
        bad(1, 7, "fuel 7 7;");
        bad(1, 8, "child a b clay 1 grit 1;");
        good(1, "fuel 7 ;");
    }

    private static void ownWords() {
        Sentence.ofTerms("OWN WORDS, which no NAME is: child, clay, grit, kiln, room, temper, cracks, sticks, burns, fuel, load, wind, heat, week, "
            + "place, rings, near, grits, full, if, or, and, not, all, min, max.");
        for (String word : OWN_WORDS) {
            bad(1, 6, "child " + word + " clay 1 grit 1;");
            bad(1, 5, "kiln " + word + " room 1;");
            good(1, "child " + word.substring(1) + " clay 1 grit 1;");
            if (!word.equals("grits")) {
                good(1, "child " + word.substring(0, word.length() - 1) + " clay 1 grit 1;");
            }
            if (!word.equals("grit") && word.length() < 6) {
                good(1, "kiln " + word + "s room 1;");
            }
        }
        Sentence.ofTerms("an OWN WORD where a NAME must be");
        bad(1, 6, "child clay");
        bad(1, 6, "child clay 1 grit 1;");
        bad(1, 5, "kiln room 1;");
        bad(1, 6, "child child");
    }

    // ---- terms I: faults

    private static void firstFault() {
        Sentence.ofTerms("FAULTS, the first along the text");
        bad(4, 13, "child a clay 100 grit 10;child a");
        bad(4, 13, "child a clay 100grit 1;");
        bad(2, 19, "kiln a room 1;kiln a7 room 0;");
        bad(4, 12, "kiln a room 0;kiln a room 1;");
        bad(6, 9, "temper 1;temper1;");
        bad(5, 13, "burns ((((((((00000");
        bad(1, 7, "temper near+((((((((");
        bad(1, 4, "fuel;fuel 1000;");
        bad(4, 5, "fuel 1000 " + sign(7));
    }

    private static void wrongBytes() {
        Sentence.ofTerms("1 the first byte with which no TOWN goes on (words and numbers whole, at their first byte");
        bad(1, 0, "winds 1;");
        bad(1, 0, "win 1;");
        bad(1, 0, "clay 1;");
        bad(1, 0, "1;");
        bad(1, 5, "fuel heat;");
        bad(1, 8, "child a claya 1 grit 1;");
        bad(1, 8, "child a cla 1 grit 1;");
        bad(1, 8, "child a 5 grit 1;");
        bad(1, 15, "child a clay 1 5;");
        bad(1, 7, "kiln k 1;");
        bad(1, 6, "child 1234 clay 1 grit 1;");
        bad(1, 7, "temper heats;");
        bad(1, 8, "temper 1>2;");
        bad(1, 7, "temper -1;");
        bad(1, 8, "temper ();");
        bad(1, 9, "temper 1+;");
        bad(1, 8, "temper 1);");
        bad(1, 11, "cracks [1<2);");
        bad(1, 7, "temper [1];");
    }

    private static void endsTooSoon() {
        Sentence.ofTerms("at the text's length, if it ends too soon");
        String[] parts = {"child", " ", "ann", " ", "clay", " ", "1", " ", "grit", " ", "1", ";", "kiln", " ", "k", " ", "room", " ", "1", ";",
            "temper", " ", "min", "(", "1", "+", "2", ",", "if", "(", "1", "<", "2", ",", "3", ",", "4", ")", ")", ";", "cracks", " ", "not",
            " ", "[", "all", "]", " ", "or", " ", "all", " ", "and", " ", "1", "=", "1", ";", "fuel", " ", "1", ";"};
        StringBuilder text = new StringBuilder();
        int statements = 0;
        for (String part : parts) {
            text.append(part);
            if (part.equals(";")) {
                statements++;
                good(statements, text.toString());
            } else {
                bad(1, text.length(), text.toString());
                bad(1, text.length() + 2, text + " \n");
            }
        }
    }

    private static void seventhLetterFifthDigit() {
        Sentence.ofTerms("a 7th letter, a 5th digit at itself, whatever may stand there");
        bad(1, 12, "child abcdefg clay 1 grit 1;");
        bad(1, 12, "child temperx clay 1 grit 1;");
        bad(1, 6, "temperx 1;");
        bad(1, 6, "abcdefg");
        bad(1, 11, "fuel abcdefg;");
        bad(1, 15, "temper 1 abcdefg;");
        bad(1, 9, "fuel 12345;");
        bad(1, 4, "12345");
        bad(1, 10, "child 12345 clay 1 grit 1;");
        bad(1, 13, "temper 1 12345;");
        bad(1, 17, "child a clay 12345 grit 1;");
        bad(1, 0, "abcdef");
        bad(1, 0, "1234");
    }

    private static void nameTwice() {
        Sentence.ofTerms("2 a NAME that is there already, at its first byte");
        bad(2, 19, "kiln a room 1;kiln a");
        bad(2, 21, "kiln a room 1; kiln\n a");
        bad(2, 20, "kiln a room 1;child a");
        good(2, "kiln a room 1;kiln b room 1;");
    }

    private static void numberThatCannotBe() {
        Sentence.ofTerms("4 a NUMBER that can't be, at its first byte");
        bad(4, 14, "child a clay  0100 grit 1;");
        bad(4, 13, "child a clay 100");
        bad(4, 13, "kiln k room \n0");
        bad(4, 12, "kiln k room 0000;");
        bad(4, 12, "kiln k room 7");
        bad(4, 5, "wind 0101;");
        good(1, "temper 9999;");
        good(1, "burns 9999;");
    }

    private static void eighthOpen() {
        Sentence.ofTerms("5 the 8th ( [ not that is open at once (not until its FACT ends), at it");
        good(1, "burns " + "(".repeat(7) + "1" + ")".repeat(7) + ";");
        bad(5, 13, "burns " + "(".repeat(8) + "1" + ")".repeat(8) + ";");
        good(1, "cracks " + "[".repeat(7) + "all" + "]".repeat(7) + ";");
        bad(5, 14, "cracks " + "[".repeat(8) + "all" + "]".repeat(8) + ";");
        good(1, "cracks " + "not ".repeat(7) + "all;");
        bad(5, 35, "cracks " + "not ".repeat(8) + "all;");
        bad(5, 35, "cracks " + "not ".repeat(7) + "(1)<2;");
        bad(5, 35, "cracks " + "not ".repeat(7) + "[all];");
        bad(5, 14, "cracks " + "[".repeat(7) + "not all" + "]".repeat(7) + ";");
        bad(5, 14, "cracks " + "[".repeat(7) + "(1)<2" + "]".repeat(7) + ";");
        good(1, "cracks " + "[".repeat(6) + "(1)<2" + "]".repeat(6) + ";");
        good(1, "burns " + "min(1,".repeat(7) + "1" + ")".repeat(7) + ";");
        bad(5, 6 + 42 + 3, "burns " + "min(1,".repeat(8) + "1" + ")".repeat(8) + ";");
        bad(5, 6 + 42 + 2, "burns " + "max(1,".repeat(7) + "if(all,1,2)" + ")".repeat(7) + ";");
        // What is closed is open no more, and a not ends with its fact.
        good(1, "burns " + "(1)+".repeat(9) + "1;");
        good(1, "cracks " + "not all and ".repeat(9) + "all;");
        good(1, "cracks " + "not all or ".repeat(9) + "all;");
        good(1, "cracks not 1<2 or " + "[".repeat(7) + "all" + "]".repeat(7) + ";");
        good(1, "cracks [not all] and " + "not ".repeat(7) + "all;");
        bad(5, 7 + 4 + 6 + 2, "cracks not " + "[".repeat(6) + "1<(2)" + "]".repeat(6) + ";");
        // Where it can't stand at all it is a wrong byte.
        bad(1, 14, "burns (((((((1(");
        bad(1, 13, "burns ((((((([");
        bad(1, 13, "burns (((((((not");
    }

    private static void oneTooMany() {
        Sentence.ofTerms("6 one too many of a kind of STATEMENT (a second temper, cracks, sticks, burns, too), or the 81st STATEMENT (whatever it is), at its first byte.");
        bad(6, 8 * 22, children(8) + "child");
        bad(6, 8 * 22 + 2, children(8) + " \nchild a");
        bad(6, 3 * 14, kilns(3) + "kiln");
        bad(6, 9, "temper 1;temper");
        bad(6, 11, "cracks all;cracks");
        bad(6, 11, "sticks all;sticks");
        bad(6, 8, "burns 1;burns");
        good(80, "fuel 1;".repeat(80) + " \n");
        bad(6, 560, "fuel 1;".repeat(80) + "fuel 1;");
        bad(6, 562, "fuel 1;".repeat(80) + "\n child");
        bad(6, 560, "fuel 1;".repeat(80) + "temper 1;");
        bad(6, 560, "fuel 1;".repeat(80) + "wood 1;");
        bad(6, 560, "fuel 1;".repeat(80) + ";");
        bad(1, 559, "fuel 1;".repeat(79) + "fuel 1");
    }

    // ---- promises 2 and 3

    private static void feed() {
        Sentence.of(2, "Twenty bytes come behind those on the tape, of each number the highest first: how many there are");
        KilnBench x = new KilnBench();
        // "wind" " 100" ";loa" "d 99" "9;fu", then "el 7" ";" and blanks.
        due("twenty", 20, x.feed(0x77696e64, 0x20313030, 0x3b6c6f61, 0x64203939, 0x393b6675));
        due("forty", 40, x.feed(0x656c2037, 0x3b202020, 0x20202020, 0x20202020, 0x20202020));
        due("statements", 3, x.town());
        due("fuel", 7, x.has(3));
        due("load", 7 + 999, x.fuel(1));
        due("the tape is empty again", 20, x.feed(0, 0, 0, 0, 0));
        due("bytes above 127", 40, x.feed(-1, 0x80ff80ff, Integer.MIN_VALUE, Integer.MAX_VALUE, 0));
        Sentence.of(2, "NONE, refused (0), if there would be more than 1600.");
        KilnBench y = new KilnBench();
        for (int k = 1; k <= 80; k++) {
            due("bytes", 20 * k, y.feed(0x20202020, 0x20202020, 0x20202020, 0x20202020, 0x20202020));
        }
        due("not refused", 0, y.status(0));
        due("1620", NONE, y.feed(-1, -1, -1, -1, -1));
        due("refused", 1, y.status(0));
        due("1620 again", NONE, y.feed(-1, -1, -1, -1, -1));
        due("refused again", 2, y.status(0));
        due("1600 are there", true, y.end(1600));
        due("as they were", 0, y.town());
        due("and gone", 20, y.feed(0, 0, 0, 0, 0));
        KilnBench z = new KilnBench();
        for (int k = 0; k < 80; k++) {
            z.feed(0x20202020, 0x20202020, 0x20202020, 0x20202020, 0x20202020);
        }
        z.end(1581);
        due("1601", NONE, z.feed(0, 0, 0, 0, 0));
        due("no byte of them has come", true, z.end(1581) && !z.end(1582));
        due("one less", true, z.end(1580));
        due("1600", 1600, z.feed(0x20202020, 0x20202020, 0x20202020, 0x20202020, 0x20202020));
        due("full again", NONE, z.feed(0, 0, 0, 0, 0));
    }

    private static void end() {
        Sentence.of(3, "The tape has its first n bytes alone: true");
        KilnBench x = new KilnBench();
        due("0 of none", true, x.end(0));
        x.feed(0x6675656c, 0x20393939, 0x3b6c6f61, 0x6420373b, 0x21212121);
        due("all", true, x.end(20));
        due("but four", true, x.end(16));
        due("more come behind these", 36, x.feed(0x77696e64, 0x2039393b, 0x20202020, 0x20202020, 0x20202020));
        due("three statements", 3, x.town());
        due("fuel", 999, x.has(3));
        due("load", 1006, x.fuel(1));
        x.feed(-1, -1, -1, -1, -1);
        due("none", true, x.end(0));
        due("none are there", 20, x.feed(0x20202020, 0x20202020, 0x20202020, 0x20202020, 0x20202020));
        due("one", true, x.end(1));
        due("one is there", 21, x.feed(0x20202020, 0x20202020, 0x20202020, 0x20202020, 0x20202020));
        due("only blanks", 0, x.town());
        due("none was refused", 0, x.status(0));
        // What was behind the end is not read, whatever it was: "fuel 12345678;" and blanks.
        x.feed(0x6675656c, 0x20313233, 0x34353637, 0x383b2020, 0x20202020);
        x.end(9);
        due("a number that goes on behind the end", NONE, x.town());
        due("1234 can't be", 4, x.fault(0));
        due("there", 5, x.fault(1));
        x.feed(0x77696e64, 0x2039393b, 0x20202020, 0x20202020, 0x20202020);
        x.end(3);
        x.town();
        due("a word that goes on behind the end", 0, x.fault(1));
        Sentence.of(3, "false, refused (0), if it has not so many, or n is below 0.");
        KilnBench y = new KilnBench();
        int[] wrong = {1, -1, 1600, 1601, Integer.MAX_VALUE, Integer.MIN_VALUE};
        for (int k = 0; k < wrong.length; k++) {
            due("none has " + wrong[k], false, y.end(wrong[k]));
            due("refused", k + 1, y.status(0));
        }
        y.feed(0x6675656c, 0x2037373b, 0x20202020, 0x20202020, 0x20202020);
        due("21 of 20", false, y.end(21));
        due("-20 of 20", false, y.end(-20));
        due("refused", wrong.length + 2, y.status(0));
        due("all stays", 1, y.town());
        due("fuel", 77, y.has(3));
    }

    // ---- promises 4 and 5

    private static void town() {
        Sentence.of(4, "The tape (it goes) is THE TOWN: how many STATEMENTS (0 without)");
        KilnBench x = new KilnBench();
        due("without a tape", 0, x.town());
        due("no fault", 0, x.fault(0));
        due("only blanks", 0, Check.town(x, " \n ".repeat(500)));
        due("one", 1, Check.town(x, "fuel 3;"));
        due("nothing is on the tape", false, x.end(1));
        due("without a tape again", 0, x.town());
        due("it is a town too", 0, x.has(3));
        due("eighty", 80, Check.town(x, "fuel 3;".repeat(80)));
        due("a tape of 1600", 2, Check.town(x, "fuel 3;" + " ".repeat(1586) + "wind 3;"));
        due("it has gone", false, x.end(1));
    }

    private static KilnBench busy() {
        KilnBench x = Check.made("child a clay 1 grit 1;child b clay 2 grit 2;child c clay 3 grit 3;kiln k room 3;kiln l room 2;"
            + "sticks all;cracks clay=1;fuel 9;load 3;wind 20;");
        x.seed(4711);
        x.set(0, 0, 0);
        x.set(1, 0, 1);
        x.light(0, 4);
        x.weeks(2);
        x.set(2, 1, 1);
        x.light(1, 20);
        Check.see(x, 0, 0, 8, 1, 1, 8);
        return x;
    }

    private static void townWithAFault() {
        Sentence.of(4, "NONE, refused (1), with a FAULT (all stays).");
        String[] wrong = {"x", "child z clay 5 grit 5;kiln y room 6;fuel 7;load 8;wind 100;temper 1;cracks all;burns 7;sticks all;;", "fuel 1000;",
            children(9), "temper 1;temper 2;", "burns ((((((((1", "kiln a room 1;kiln a room 1;"};
        for (String text : wrong) {
            KilnBench x = busy();
            int[] before = Check.image(x);
            due("no town", NONE, Check.town(x, text));
            due("refused", 1, x.status(1));
            due("the tape goes", false, x.end(1));
            int[] after = Check.image(x);
            due("as long", before.length, after.length);
            for (int b = 0; b < before.length; b++) {
                due("byte " + b + " stays", before[b], after[b]);
            }
            int[] has = {3, 2, 2, 11, 1, 2, 1, 1, 1, 2, 6, 4711};
            for (int what = 0; what < has.length; what++) {
                due("has " + what + " stays", has[what], x.has(what));
            }
            due("clay stays", 3, x.child(2, 0));
            due("room stays", 3, x.kiln(0, 0));
            due("a name stays", 'l' - 'a' + 1, x.letter(1, 1, 0));
            due("load stays", 14, x.fuel(1));
            due("temper stays", 40, x.rings(2, 10, 0));
            due("cracks stays", 0, x.cracks(1, 10, 0));
            due("burns stays", 20, x.kiln(1, 3));
            due("kept stays", 4, x.kept(0, 2));
            due("seen stays", 1 << 2, x.seen());
            due("best stays", 2, x.best(1, 3));
            due("wind stays", windyWeeks(busy()), windyWeeks(x));
            due("an act can be undone", true, x.undo() && x.undo());
            due("as ahead of it", NONE, x.kiln(1, 2));
        }
    }

    private static int windyWeeks(KilnBench x) {
        x.light(1, NONE);
        int gusts = x.chance(40);
        x.undo();
        return gusts;
    }

    private static void townWithoutAFault() {
        Sentence.of(4, "Without one all is as at first, nothing is KEPT or SEEN, no ACT can be undone; the seed stays.");
        String text = "child a clay 5 grit 5;child b clay 6 grit 6;child c clay 7 grit 7;kiln k room 3;kiln l room 2;fuel 4;";
        KilnBench x = busy();
        due("a best ahead of it", 2, x.best(1, 3));
        due("statements", 6, Check.town(x, text));
        int[] has = {3, 2, 0, 4, 0, 0, 0, 0, 0, 0, 0, 4711};
        for (int what = 0; what < has.length; what++) {
            due("has " + what, has[what], x.has(what));
        }
        for (int c = 0; c < 3; c++) {
            int[] child = {5 + c, 5 + c, NONE, NONE, 0, NONE, 0};
            for (int what = 0; what < child.length; what++) {
                due("child " + c + " " + what, child[what], x.child(c, what));
            }
            due("brothers of a raw one", 0, x.brothers(c));
        }
        for (int k = 0; k < 2; k++) {
            due("kiln empty", 0, x.kiln(k, 1));
            due("kiln not lit", NONE, x.kiln(k, 2));
            due("no best", NONE, x.best(k, 0));
        }
        due("nothing kept", NONE, x.kept(0, 0));
        due("nothing seen", (1 << 21) - 1, x.seen());
        due("no act", false, x.undo());
        due("no cracks", 0, x.cracks(0, 20, 0));
        due("no load", 4, x.fuel(40));
        due("no wind", 0, x.chance(40));
        // The same text once more is a new town too.
        KilnBench y = busy();
        y.weeks(1);
        Check.town(y, text);
        y.set(0, 0, 0);
        y.set(1, 0, 1);
        y.light(0, 4);
        y.weeks(1);
        due("no sticks of the town before", 1, y.brothers(0));
        due("refusals are counted on", 0, y.status(4));
        // Nothing of towns before the last one, nor of texts with a fault, is left over.
        KilnBench z = new KilnBench();
        String much = "kiln k room 6;kiln l room 6;kiln m room 6;fuel 9;load 8;wind 100;temper 7;cracks all;sticks all;burns 7;";
        Check.town(z, much);
        Check.town(z, much + ";");
        Check.town(z, "child a clay 1 grit 1;kiln k room 1;kiln l room 1;");
        leftOverDue(z);
        Check.town(z, much);
        Check.town(z, "fuel 3;");
        Check.town(z, "child a clay 1 grit 1;kiln k room 1;kiln l room 1;");
        leftOverDue(z);
        Check.town(y, "");
        due("no children", 0, y.has(0));
        due("no kilns", 0, y.has(1));
        due("of none", NONE, y.child(0, 0));
        due("of no kiln", NONE, y.kiln(0, 0));
        due("no fuel", 0, y.has(3));
    }

    private static void leftOverDue(KilnBench x) {
        due("no fuel, no load", 0, x.fuel(40));
        due("no temper", 40, x.rings(0, 10, 0));
        due("no third kiln", NONE, x.kiln(2, 0));
        due("not one to set to", false, x.set(0, 2, 0));
        due("not by an image", 0, Check.on(x, Check.sealed(0, 0, 0, 0, 0, 2, 0, 255, 0, 0, 255, 255, 0)));
        x.set(0, 0, 0);
        x.light(0, 10);
        due("no burns", 10, x.kiln(0, 3));
        due("no cracks", 0, x.odds(0));
        due("no wind", 0, x.chance(20));
    }

    private static void fault() {
        Sentence.of(5, "Of the latest town(): its FAULT (what 0; 0 without, and ahead of any), its place (1; NONE without).");
        KilnBench x = new KilnBench();
        due("ahead of any", 0, x.fault(0));
        due("no place ahead of any", NONE, x.fault(1));
        Check.town(x, "fuel 1000;");
        due("a fault", 4, x.fault(0));
        due("its place", 5, x.fault(1));
        Check.town(x, "x");
        due("the latest", 1, x.fault(0));
        due("its place, 0", 0, x.fault(1));
        Check.see(x, 1);
        Check.on(x, 1);
        x.feed(0, 0, 0, 0, 0);
        due("still the latest", 1, x.fault(0));
        x.end(0);
        x.town();
        due("without", 0, x.fault(0));
        due("no place without", NONE, x.fault(1));
        Check.town(x, " ".repeat(1599) + "x");
        due("the last place", 1599, x.fault(1));
        Check.town(x, "fuel" + " ".repeat(1596));
        due("the text's length", 1600, x.fault(1));
        Sentence.of(5, "NONE for another what.");
        for (int what : new int[] {-1, 2, 3, Integer.MIN_VALUE, Integer.MAX_VALUE}) {
            due("what " + what, NONE, x.fault(what));
        }
    }
}
