import java.lang.management.ManagementFactory;
import java.util.Random;

/** Calls with any arguments in any state: none may throw, none may fail to end, none may make an object. */
public final class ExtremesTest {
    private static final int[] EDGES = {Integer.MIN_VALUE, Integer.MIN_VALUE + 1, -1000, -2, -1, 0, 1, 2, 3, 5, 6, 7, 8, 9, 19, 20,
        21, 39, 40, 41, 99, 100, 999, 1000, 1600, 1601, Integer.MAX_VALUE - 1, Integer.MAX_VALUE};

    public static void main(String[] args) {
        anyArguments();
        anyBytes();
        longestTexts();
        deepestSum();
        noObjects();
        Check.finish("ExtremesTest");
    }

    private static String fullTown() {
        StringBuilder text = new StringBuilder();
        for (int c = 0; c < 8; c++) {
            text.append("child ").append((char) ('a' + c)).append(" clay ").append(12 * c).append(" grit ").append(c).append(";");
        }
        text.append("kiln x room 6;kiln y room 3;kiln z room 1;temper heat*4+place*clay/(grit-week%9);");
        text.append("cracks rings%(heat-7)>3;sticks near<4 or grits=7;burns heat*full/(room-3)+1;fuel 50;load 30;wind 60;");
        return text.toString();
    }

    private static int call(KilnBench x, int which, int a, int b, int c) {
        switch (which) {
            case 0: return x.feed(a, b, c, a, b);
            case 1: return x.end(a) ? 1 : 0;
            case 2: return x.fault(a);
            case 3: return x.has(a);
            case 4: return x.letter(a, b, c);
            case 5: return x.child(a, b);
            case 6: return x.kiln(a, b);
            case 7: return x.place(a, b);
            case 8: return x.rings(a, b, c);
            case 9: return x.cracks(a, b, c);
            case 10: return x.heats(a, b, c, a);
            case 11: return x.safe(a);
            case 12: return x.best(a, b);
            case 13: return x.brothers(a);
            case 14: return x.fired(a);
            case 15: return x.fuel(a);
            case 16: return x.later(a, b);
            case 17: return x.odds(a);
            case 18: return x.see();
            case 19: return x.seen();
            case 20: return x.tells(a);
            case 21: return x.weeks(a);
            case 22: return x.chance(a);
            case 23: return x.set(a, b, c) ? 1 : 0;
            case 24: return x.take(a) ? 1 : 0;
            case 25: return x.light(a, b) ? 1 : 0;
            case 26: return x.undo() ? 1 : 0;
            case 27: return x.seed(a) ? 1 : 0;
            case 28: return x.kept(a, b);
            case 29: return x.image();
            case 30: return x.octet(a);
            case 31: return x.on() ? 1 : 0;
            case 32: return x.status(a);
            default: return x.has(0) == 0 && a > 20 ? x.town() : 0;
        }
    }

    private static int edge(Random random) {
        return random.nextInt(3) == 0 ? EDGES[random.nextInt(EDGES.length)] : random.nextInt(9);
    }

    private static void anyArguments() {
        for (int run = 0; run < 300; run++) {
            Random random = new Random(run);
            KilnBench x = run % 5 == 0 ? new KilnBench() : Check.made(fullTown());
            for (int k = 0; k < 512; k++) {
                call(x, random.nextInt(34), edge(random), edge(random), edge(random));
            }
            Check.due("a week that can be", true, x.has(2) >= 0 && x.has(2) <= 999);
            Check.due("fuel that can be", true, x.has(3) >= 0 && x.has(3) <= 9999);
            Check.due("acts that can be", true, x.has(10) >= 0 && x.has(10) <= 20);
        }
    }

    private static void anyBytes() {
        Random random = new Random(7);
        KilnBench x = new KilnBench();
        for (int run = 0; run < 3000; run++) {
            byte[] bytes = new byte[random.nextInt(90)];
            random.nextBytes(bytes);
            Check.tape(x, bytes);
            int kind = random.nextInt(3);
            if (kind == 0 && bytes.length > 0) {
                Check.due("no town", -1, x.town());
                Check.due("its fault", 1, x.fault(0));
            } else if (kind == 1) {
                Check.due("nothing seen", -1, x.see());
            } else {
                Check.due("no image", false, x.on());
            }
        }
    }

    private static void longestTexts() {
        String chain = "temper 1" + "-1+1".repeat(397);
        KilnBench x = Check.made("child a clay 0 grit 0;");
        Check.due("too long to end", -1, Check.town(x, chain.substring(0, 1596)));
        Check.due("ends too soon", 1596, x.fault(1));
        String text = "child a clay 0 grit 0;temper 1" + "-1+1".repeat(392) + ";";
        Check.due("statements of the longest", 2, Check.town(x, text));
        Check.due("rings of it", 1, x.rings(0, 3, 0));
        String tests = "child a clay 0 grit 0;cracks 1=2" + " or 1=2".repeat(223) + ";";
        Check.due("statements of tests", 2, Check.town(x, tests));
        Check.due("cracks by them", 0, x.cracks(0, 3, 0));
        Check.due("one more", 2, Check.town(x, tests.replace(";cracks 1=2", ";cracks 2=2")));
        Check.due("cracks by the first", 1, x.cracks(0, 3, 0));
        Check.due("only blanks", 0, Check.town(x, " ".repeat(1600)));
    }

    /** As many operands wait here at once as can be. */
    private static void deepestSum() {
        for (int inner = 1; inner <= 2; inner++) {
            String test = "1=2 or 1=1 and 1<1+1*" + (inner == 1 ? "1" : "0");
            for (int k = 0; k < 7; k++) {
                test = "1=2 or 1=1 and 1<1+1*if(" + test + ",1,0)";
            }
            KilnBench x = Check.made("child a clay 0 grit 0;cracks " + test + ";");
            Check.due("the deepest test", inner == 1 ? 1 : 0, x.cracks(0, 0, 0));
            String sum = "7";
            for (int k = 0; k < 7; k++) {
                sum = "0+1*if(1=2,9,0+1*" + sum + ")";
            }
            Check.town(x, "child a clay 0 grit 0;temper " + sum + ";");
            Check.due("the deepest sum", 7, x.rings(0, 0, 0));
        }
    }

    private static void noObjects() {
        var threads = (com.sun.management.ThreadMXBean) ManagementFactory.getThreadMXBean();
        KilnBench x = Check.made(fullTown());
        Random random = new Random(3);
        int[] numbers = new int[4 * 3000];
        for (int k = 0; k < numbers.length; k++) {
            numbers[k] = k % 4 == 0 ? random.nextInt(34) : edge(random);
        }
        play(x, numbers);
        long before = threads.getCurrentThreadAllocatedBytes();
        play(x, numbers);
        long made = threads.getCurrentThreadAllocatedBytes() - before;
        Check.due("3000 calls make no objects (bytes: " + made + ")", true, made < 3000);
    }

    private static void play(KilnBench x, int[] numbers) {
        for (int k = 0; k < numbers.length; k += 4) {
            call(x, numbers[k], numbers[k + 1], numbers[k + 2], numbers[k + 3]);
        }
    }
}
