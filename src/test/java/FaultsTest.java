/** Promises 4 and 5 and the terms of the text: which texts are towns, and where the others break. */
public final class FaultsTest {
    public static void main(String[] args) {
        goodTexts();
        wrongBytes();
        wordsAndNumbersWhole();
        textsThatEndTooSoon();
        namesTwice();
        numbersThatCannotBe();
        tooDeep();
        tooMany();
        firstAlongTheText();
        Check.finish("FaultsTest");
    }

    private static void good(int statements, String text) {
        KilnBench x = new KilnBench();
        Check.due("town of " + text, statements, Check.town(x, text));
        Check.due("fault of " + text, 0, x.fault(0));
        Check.due("its place in " + text, -1, x.fault(1));
    }

    private static void bad(int kind, int place, String text) {
        KilnBench x = new KilnBench();
        Check.due("town of " + text, -1, Check.town(x, text));
        Check.due("fault of " + text, kind, x.fault(0));
        Check.due("its place in " + text, place, x.fault(1));
    }

    private static void goodTexts() {
        good(0, "");
        good(0, " \n ");
        good(1, "fuel 7;");
        good(3, "fuel 0;load 0;wind 0;");
        good(1, "\nfuel\n\n7\n;\n");
        good(2, "fuel 0999;load 0000;");
        good(3, "child abcdef clay 99 grit 9;kiln a room 6;child ifs clay 0 grit 0;");
        good(1, "temper((1))+if(1<2 or not all,min(2,3),max(4,clay))*heat/week%grit-place;");
        good(1, "cracks[rings>1]and not[not clay=1]or(1)<2 and all;");
        good(1, "sticks near<grits or heat=week;");
        good(1, "burns room*full+heat-week;");
        good(4, "wind 1;wind 2;wind 3;wind 100;");
        good(1, "cracks not not not not not not not all;");
        good(1, "burns (((((((1)))))))+(((((((2)))))));");
    }

    private static void wrongBytes() {
        bad(1, 0, ";");
        bad(1, 7, "fuel 7;;");
        bad(1, 0, "\tfuel 7;");
        bad(1, 6, "fuel 7\r;");
        bad(1, 5, "fuel A;");
        bad(1, 6, "child Ann clay 1 grit 1;");
        bad(1, 7, "child a_ clay 1 grit 1;");
        bad(1, 5, "fuel -7;");
        bad(1, 7, "fuel 7 8;");
        bad(1, 0, new String(new char[] {(char) 233}));
        bad(1, 7, "temper " + (char) 0 + ";");
        bad(1, 7, "temper +1;");
        bad(1, 9, "temper 1+;");
        bad(1, 8, "temper 1>2;");
        bad(1, 8, "cracks 1;");
        bad(1, 10, "cracks 1<2<3;");
        bad(1, 9, "temper (1;");
        bad(1, 8, "temper 1);");
        bad(1, 11, "cracks [1<2);");
        bad(1, 13, "temper min(1+);");
        bad(1, 12, "temper min(1);");
        bad(1, 14, "temper min(1,2,3);");
        bad(1, 12, "temper if (1,2,3);");
        bad(1, 11, "temper min 1;");
        bad(1, 10, "temper min;");
        bad(1, 5, "fuel ;");
        bad(1, 13, "child a clay grit 1;");
        bad(1, 12, "kiln a room ;");
        bad(1, 7, "temper all;");
        bad(1, 7, "temper [1];");
        bad(1, 11, "cracks all all;");
        bad(1, 10, "cracks not;");
    }

    private static void wordsAndNumbersWhole() {
        bad(1, 0, "winds 1;");
        bad(1, 0, "clay 1;");
        bad(1, 0, "7;");
        bad(1, 7, "temper heats;");
        bad(1, 7, "temper near;");
        bad(1, 7, "temper rings;");
        bad(1, 7, "temper full;");
        bad(1, 7, "cracks room>1;");
        bad(1, 7, "cracks grits>1;");
        bad(1, 7, "sticks place>1;");
        bad(1, 7, "sticks rings>1;");
        bad(1, 6, "burns clay;");
        bad(1, 6, "burns near;");
        bad(1, 6, "child 12 clay 1 grit 1;");
        bad(1, 8, "child a room 1;");
        bad(1, 5, "kiln max room 1;");
        bad(1, 6, "child child clay 1 grit 1;");
        bad(1, 6, "child clay 1 grit 1;");
        bad(1, 5, "kiln room 1;");
        // A blank is needed between a word and a number, and only there.
        bad(1, 4, "fuel7;");
        bad(1, 4, "fuel1000;");
        bad(1, 14, "child a clay 1grit 1;");
        bad(1, 10, "cracks 1<2and all;");
        bad(1, 6, "temper1;");
        bad(1, 10, "cracks not1<2;");
        bad(1, 7, "child a1 clay 1 grit 1;");
        // The seventh letter and the fifth digit lie at themselves, whatever may stand there.
        bad(1, 6, "children a clay 1 grit 1;");
        bad(1, 12, "child abcdefg clay 1 grit 1;");
        bad(1, 9, "fuel 10000;");
        bad(1, 11, "temper 00001;");
        bad(1, 11, "fuel abcdefgh;");
        bad(1, 4, "00000");
        bad(1, 12, "child temperx clay 1 grit 1;");
    }

    /** A part of an own word is another word, and so the fault is where it begins. */
    private static void textsThatEndTooSoon() {
        String town = "child a clay 1 grit 1;";
        int[] places = {0, 0, 0, 0, 5, 6, 7, 8, 8, 8, 8, 12, 13, 14, 15, 15, 15, 15, 19, 20, 21};
        for (int length = 1; length < town.length(); length++) {
            bad(1, places[length - 1], town.substring(0, length));
        }
        bad(1, 6, "fuel 7");
        bad(1, 9, "fuel 7   ");
        bad(1, 6, "temper");
        bad(1, 8, "temper (");
        bad(1, 9, "cracks 1<");
        bad(1, 10, "cracks not");
    }

    private static void namesTwice() {
        bad(2, 28, "child a clay 1 grit 1;child a clay 1 grit 1;");
        bad(2, 27, "child a clay 1 grit 1;kiln a room 1;");
        bad(2, 22, "kiln a room 1; kiln \n a");
        bad(2, 20, "kiln a room 1;child a");
        good(2, "kiln a room 1;kiln aa room 1;");
        good(2, "kiln ab room 1;kiln ba room 1;");
    }

    private static void numbersThatCannotBe() {
        bad(4, 13, "child a clay 100 grit 1;");
        bad(4, 21, "child a clay 99 grit 10;");
        bad(4, 12, "kiln a room 0;");
        bad(4, 12, "kiln a room 7;");
        bad(4, 5, "fuel 1000;");
        bad(4, 5, "load 1000;");
        bad(4, 5, "wind 101;");
        bad(4, 12, "fuel 5;fuel 9999;");
        good(1, "temper 9999;");
    }

    private static void tooDeep() {
        bad(5, 13, "burns ((((((((1");
        bad(5, 14, "cracks [[[[[[[[");
        bad(5, 35, "cracks not not not not not not not not all;");
        bad(5, 24, "cracks [[not (((min (max(1,2)");
        bad(5, 23, "cracks [[not (((min (if(1<2");
        good(1, "cracks [[not (((min (heat,3))))<1]];");
        // A not is open until its fact ends, a bracket until it is closed.
        good(1, "cracks not [[[[[[1<2]]]]]] and not [[[[[[1<2]]]]]];");
        bad(5, 40, "cracks not [[[[[[1<2]]]]]] or [[[[[[not (1)<2]]]]]];");
        good(1, "cracks not not not not not not not all and not not not not not not not all;");
        good(1, "temper (1)+(1)+(1)+(1)+(1)+(1)+(1)+(1)+(1);");
        // Where none may stand, an eighth one is a wrong byte.
        bad(1, 14, "burns (((((((1(");
        bad(1, 14, "burns (((((((1[");
    }

    private static void tooMany() {
        String eight = "";
        for (char c = 'a'; c < 'i'; c++) {
            eight += "child " + c + " clay 1 grit 1;";
        }
        good(8, eight);
        bad(6, 176, eight + "child");
        bad(6, 176, eight + "child a clay 1 grit 1;");
        String three = "kiln x room 1;kiln y room 1;kiln z room 1;";
        good(3, three);
        bad(6, 42, three + "kiln");
        good(11, eight + three);
        bad(6, 10, "temper 1; temper");
        bad(6, 11, "cracks all;cracks all;");
        bad(6, 11, "sticks all;sticks");
        bad(6, 8, "burns 1;burns 1;");
        good(80, "fuel 1;".repeat(80));
        bad(6, 560, "fuel 1;".repeat(80) + "fuel 1;");
        bad(6, 562, "fuel 1;".repeat(80) + " \nchild");
        bad(6, 560, "fuel 1;".repeat(80) + "temper");
        good(80, "fuel 1;".repeat(80) + "\n\n");
        // The 81st is one too many whatever it is.
        bad(6, 560, "fuel 1;".repeat(80) + "wood 1;");
        bad(6, 560, "fuel 1;".repeat(80) + "abcdefgh 1;");
        bad(6, 561, "fuel 1;".repeat(80) + "\n;");
        bad(6, 560, "fuel 1;".repeat(80) + "12345");
        bad(1, 559, "fuel 1;".repeat(79) + "fuel 1,");
    }

    private static void firstAlongTheText() {
        bad(4, 13, "child a clay 100grit 1;");
        bad(4, 5, "fuel 1000abcdefgh;");
        bad(2, 20, "kiln a room 1;child a1 clay 1 grit 1;");
        bad(6, 9, "temper 1;temper1;");
        bad(5, 13, "burns ((((((((1000000");
        bad(1, 7, "temper bogus1;");
    }
}
