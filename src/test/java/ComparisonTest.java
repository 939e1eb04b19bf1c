import java.util.ArrayList;
import java.util.List;
import java.util.Random;

/** Holds the class against PlainTown: towns and calls from fixed seeds, every answer compared. */
public final class ComparisonTest {
    private static Random random = new Random(1);
    private static KilnBench x;
    private static PlainTown y;
    private static String story;

    public static void main(String[] args) {
        int runs = args.length > 0 ? Integer.parseInt(args[0]) : 400;
        int firstSeed = args.length > 1 ? Integer.parseInt(args[1]) : 1;
        for (int run = 0; run < runs && Check.wrongSoFar() == 0; run++) {
            random = new Random(firstSeed + run);
            oneRun(firstSeed + run);
            if (run % 2 == 0) {
                fullBench(firstSeed + run);
            }
        }
        Check.finish("ComparisonTest");
    }

    private static int upTo(int n) {
        return random.nextInt(n + 1);
    }

    private static boolean oneIn(int n) {
        return random.nextInt(n) == 0;
    }

    private static <T> T pick(List<T> all) {
        return all.get(random.nextInt(all.size()));
    }

    private static void oneRun(int run) {
        x = new KilnBench();
        y = new PlainTown();
        int calls = 60 + upTo(340);
        String text = "";
        story = "run " + run;
        for (int k = 0; k < calls && Check.wrongSoFar() == 0; k++) {
            if (k == 0 && !oneIn(20) || oneIn(120)) {
                text = goodTown();
                town(text);
            } else if (oneIn(40)) {
                town(broken(text.isEmpty() ? goodTown() : text));
            } else {
                anyCall();
            }
        }
        for (int what = -1; what <= 12; what++) {
            Check.due(story + " has " + what, y.has(what), x.has(what));
        }
    }

    /** A kiln as full as can be, in which sticking hangs on who is where: its best setting, and what comes of it. */
    private static void fullBench(int run) {
        x = new KilnBench();
        y = new PlainTown();
        story = "bench " + run;
        int room = 3 + upTo(3);
        int children = 2 + upTo(room - 2);
        StringBuilder text = new StringBuilder("kiln k room " + room + ";fuel 999;wind 70;temper " + likelyTemper() + ";");
        text.append(pick(List.of("", "cracks place=" + upTo(5) + " and grit>" + upTo(9) + ";", "cracks heat>" + upTo(20) + ";")));
        text.append("sticks ").append(pick(List.of("grits%" + (2 + upTo(3)) + "=" + upTo(2), "near%" + (2 + upTo(2)) + "=" + upTo(1) + " or grits<" + upTo(7),
            "near>" + upTo(20), "near<" + upTo(20), "near+grits<heat", "grits>" + upTo(12) + " and near<" + upTo(30)))).append(";");
        for (int c = 0; c < children; c++) {
            text.append("child ").append((char) ('a' + c)).append(" clay ").append(upTo(99)).append(" grit ").append(upTo(9)).append(";");
        }
        town(text.toString());
        for (int c = 0; c < children; c++) {
            due("set " + c, y.set(c, 0, c), x.set(c, 0, c));
        }
        due("safe", y.safe(0), x.safe(0));
        for (int what = 0; what < 2 + room; what++) {
            due("best " + what, y.best(0, what), x.best(0, what));
        }
        due("light", y.light(0, upTo(20)), x.light(0, y.kiln(0, 2)));
        due("chance", y.chance(1), x.chance(1));
        for (int c = 0; c < children; c++) {
            due("brothers " + c, y.brothers(c), x.brothers(c));
            due("temper " + c, y.child(c, 5), x.child(c, 5));
        }
    }

    // ---- towns

    private static String blank() {
        return oneIn(6) ? pick(List.of("  ", "\n", " \n ")) : " ";
    }

    private static String joint() {
        return oneIn(5) ? blank() : "";
    }

    private static String name(int k) {
        String word = pick(List.of("a", "bo", "cid", "dora", "emily", "fedora"));
        return word.substring(0, Math.min(word.length(), 5)) + (char) ('a' + k);
    }

    private static String goodTown() {
        List<String> all = new ArrayList<>();
        int names = 0;
        int children = oneIn(8) ? 0 : 1 + upTo(7);
        for (int k = 0; k < children; k++) {
            all.add("child" + blank() + name(names++) + " clay" + blank() + upTo(99) + " grit " + upTo(9));
        }
        int kilns = oneIn(8) ? 0 : 1 + upTo(2);
        for (int k = 0; k < kilns; k++) {
            all.add("kiln " + name(names++) + " room " + (1 + upTo(5)));
        }
        if (!oneIn(4)) {
            all.add("temper " + (oneIn(2) ? likelyTemper() : sum("temper", 3)));
        }
        if (!oneIn(4)) {
            all.add("cracks " + (oneIn(2) ? "heat" + ">" + (8 + upTo(12)) + " and grit>" + upTo(6) : test("cracks", 3)));
        }
        if (!oneIn(4)) {
            all.add("sticks " + (oneIn(2) ? "near<" + upTo(9) + " and grits>" + upTo(12) : test("sticks", 3)));
        }
        if (!oneIn(4)) {
            all.add("burns " + (oneIn(2) ? "heat*" + (1 + upTo(2)) + "+full" : sum("burns", 3)));
        }
        all.add("fuel " + upTo(99));
        if (!oneIn(5)) {
            all.add("load " + upTo(oneIn(5) ? 999 : 30));
        }
        if (!oneIn(5)) {
            all.add("wind " + upTo(100));
        }
        for (int k = oneIn(10) ? 60 + upTo(20) : 0; k > 0; k--) {
            all.add(pick(List.of("fuel ", "load ", "wind ")) + upTo(99));
        }
        if (oneIn(2)) {
            java.util.Collections.shuffle(all, random);
        }
        StringBuilder text = new StringBuilder();
        for (String one : all) {
            if (text.length() + one.length() < 1550) {
                text.append(joint()).append(one).append(joint()).append(";");
            }
        }
        return text.append(joint()).toString();
    }

    private static String likelyTemper() {
        return "heat*" + (1 + upTo(4)) + "+clay/" + upTo(12) + "+place*" + upTo(5) + "-grit%" + upTo(4) + "+week";
    }

    private static String sum(String formula, int depth) {
        StringBuilder text = new StringBuilder(product(formula, depth));
        for (int k = upTo(2); k > 0; k--) {
            text.append(joint()).append(pick(List.of("+", "-"))).append(joint()).append(product(formula, depth));
        }
        return text.toString();
    }

    private static String product(String formula, int depth) {
        StringBuilder text = new StringBuilder(part(formula, depth));
        for (int k = upTo(2) - 1; k > 0; k--) {
            text.append(pick(List.of("*", "/", "%"))).append(joint()).append(part(formula, depth));
        }
        return text.toString();
    }

    private static String part(String formula, int depth) {
        if (depth > 0 && oneIn(3)) {
            return switch (upTo(3)) {
                case 0 -> "(" + joint() + sum(formula, depth - 1) + ")";
                case 1 -> "min" + joint() + "(" + sum(formula, depth - 1) + "," + sum(formula, depth - 1) + ")";
                case 2 -> "max(" + sum(formula, depth - 1) + joint() + "," + sum(formula, depth - 1) + ")";
                default -> "if(" + test(formula, depth - 1) + "," + sum(formula, depth - 1) + ","
                    + sum(formula, depth - 1) + ")";
            };
        }
        if (oneIn(3)) {
            return String.valueOf(upTo(oneIn(4) ? 9999 : 20));
        }
        return switch (formula) {
            case "temper" -> pick(List.of("heat", "heat", "week", "clay", "grit", "place"));
            case "cracks" -> pick(List.of("heat", "heat", "week", "clay", "grit", "place", "rings"));
            case "sticks" -> pick(List.of("heat", "week", "near", "grits"));
            default -> pick(List.of("heat", "week", "room", "full"));
        };
    }

    private static String test(String formula, int depth) {
        StringBuilder text = new StringBuilder(fact(formula, depth));
        for (int k = upTo(2) - 1; k > 0; k--) {
            text.append(" ").append(pick(List.of("or", "and"))).append(" ").append(fact(formula, depth));
        }
        return text.toString();
    }

    private static String fact(String formula, int depth) {
        if (depth > 0 && oneIn(3)) {
            return switch (upTo(2)) {
                case 0 -> "not " + fact(formula, depth - 1);
                case 1 -> "[" + joint() + test(formula, depth - 1) + "]";
                default -> "all";
            };
        }
        return sum(formula, depth) + joint() + pick(List.of("<", ">", "=")) + sum(formula, depth);
    }

    /** The text with a few bytes gone, put in, doubled or changed. */
    private static String broken(String text) {
        StringBuilder all = new StringBuilder(text);
        for (int k = 1 + upTo(2); k > 0 && all.length() > 0; k--) {
            int at = random.nextInt(all.length());
            switch (upTo(5)) {
                case 0 -> all.deleteCharAt(at);
                case 1 -> all.insert(at, pick(List.of(" ", ";", "a", "7", "(", ")", "[", "]", "not ", "A", "*", ",")));
                case 2 -> all.setCharAt(at, (char) random.nextInt(256));
                case 3 -> all.setLength(at);
                case 4 -> all.insert(at, pick(PlainTown.OWN) + " ");
                default -> {
                    int end = Math.min(all.length(), at + 1 + upTo(60));
                    all.insert(at, all.substring(at, end));
                }
            }
        }
        if (oneIn(6)) {
            all.append("cracks ").append(pick(List.of("(", "[", "not ", "min(")).repeat(4 + upTo(4))).append("1>1");
        }
        return all.length() > 1600 ? all.substring(0, 1600) : all.toString();
    }

    private static void town(String text) {
        feedAll(Check.bytes(text));
        story = story + "\n" + text.replace('\n', '~');
        due("town", y.town(), x.town());
        due("fault 0", y.fault(0), x.fault(0));
        due("fault 1", y.fault(1), x.fault(1));
        story = story.length() > 6000 ? story.substring(story.length() - 6000) : story;
    }

    private static void feedAll(byte[] all) {
        due("end 0", y.end(0) ? 1 : 0, x.end(0) ? 1 : 0);
        for (int from = 0; from < all.length; from += 20) {
            int[] w = new int[5];
            for (int k = 0; k < 20; k++) {
                w[k / 4] |= (from + k < all.length ? all[from + k] & 255 : 7) << 24 - 8 * (k % 4);
            }
            due("feed", y.feed(w[0], w[1], w[2], w[3], w[4]), x.feed(w[0], w[1], w[2], w[3], w[4]));
        }
        due("end", y.end(all.length) ? 1 : 0, x.end(all.length) ? 1 : 0);
    }

    private static void due(String call, int want, int got) {
        story = story + "\n" + call + " " + got;
        if (want != got) {
            System.out.println(story);
        }
        Check.due(call, want, got);
    }

    private static void due(String call, boolean want, boolean got) {
        due(call, want ? 1 : 0, got ? 1 : 0);
    }

    // ---- calls

    private static int c() {
        return oneIn(12) ? upTo(10) - 1 : random.nextInt(Math.max(1, x.has(0)));
    }

    private static int k() {
        return oneIn(12) ? upTo(5) - 1 : random.nextInt(Math.max(1, x.has(1)));
    }

    private static int p() {
        return oneIn(12) ? upTo(8) - 1 : upTo(5);
    }

    private static int h() {
        return oneIn(12) ? upTo(25) - 2 : upTo(20);
    }

    private static int n() {
        return oneIn(8) ? upTo(44) - 1 : upTo(6);
    }

    private static void anyCall() {
        int c = c();
        int k = k();
        int p = p();
        int h = h();
        int n = n();
        switch (upTo(42)) {
            case 0, 1, 2, 3 -> due("set " + c + " " + k + " " + p, y.set(c, k, p), x.set(c, k, p));
            case 4 -> due("take " + c, y.take(c), x.take(c));
            case 5, 6, 7 -> due("light " + k + " " + h, y.light(k, h), x.light(k, h));
            case 8 -> due("weeks " + n, y.weeks(n), x.weeks(n));
            case 9, 10 -> due("chance " + n, y.chance(n), x.chance(n));
            case 11, 12 -> due("undo", y.undo(), x.undo());
            case 13 -> due("seed " + c * h, y.seed(c * h * 7654321), x.seed(c * h * 7654321));
            case 14 -> due("kept " + c, y.kept(c, n), x.kept(c, n));
            case 15 -> image();
            case 16 -> imageOn();
            case 17 -> rowsSeen();
            case 18 -> due("seen", y.seen(), x.seen());
            case 19 -> due("tells " + n, y.tells(n), x.tells(n));
            case 20, 21 -> due("has " + n, y.has(n * 2), x.has(n * 2));
            case 22 -> due("letter " + c + " " + p, y.letter(c % 3, c, p), x.letter(c % 3, c, p));
            case 23, 24 -> due("child " + c + " " + n, y.child(c, n), x.child(c, n));
            case 25 -> due("kiln " + k + " " + n, y.kiln(k, n), x.kiln(k, n));
            case 26 -> due("kiln " + k + " 3", y.kiln(k, 3), x.kiln(k, 3));
            case 27 -> due("place " + k + " " + p, y.place(k, p), x.place(k, p));
            case 28 -> due("rings " + c + " " + h + " " + p, y.rings(c, h, p), x.rings(c, h, p));
            case 29 -> due("cracks " + c + " " + h + " " + p, y.cracks(c, h, p), x.cracks(c, h, p));
            case 30 -> due("heats " + c + " " + p + " " + h, y.heats(c, p, h, 3 * h), x.heats(c, p, h, 3 * h));
            case 31 -> due("safe " + k, y.safe(k), x.safe(k));
            case 32, 33 -> best(k);
            case 34 -> due("brothers " + c, y.brothers(c), x.brothers(c));
            case 35 -> due("fired " + k, y.fired(k), x.fired(k));
            case 36 -> due("fuel " + n, y.fuel(n), x.fuel(n));
            case 37 -> due("later " + c + " " + n, y.later(c, n), x.later(c, n));
            case 38, 39 -> due("odds " + c, y.odds(c), x.odds(c));
            case 40 -> due("status " + n, y.status(n), x.status(n));
            case 41 -> due("feed", y.feed(c, k, p, h, n), x.feed(c, k, p, h, n));
            default -> due("end " + n, y.end(n), x.end(n));
        }
    }

    private static void best(int k) {
        for (int what = -1; what <= 8; what++) {
            // The plain telling tries every row anew, so only some of its answers are asked for.
            if (what < 3 || oneIn(3)) {
                due("best " + k + " " + what, y.best(k, what), x.best(k, what));
            }
        }
    }

    private static void image() {
        due("image", y.image(), x.image());
        for (int k = -1; k < 58; k++) {
            due("octet " + k, y.octet(k), x.octet(k));
        }
    }

    /** The image of now with a byte or two changed at times, most often with a fitting last byte. */
    private static void imageOn() {
        int[] all = Check.image(x);
        y.image();
        for (int n = upTo(3); n > 0; n--) {
            int at = random.nextInt(all.length);
            all[at] = switch (upTo(4)) {
                case 0 -> 255;
                case 1 -> upTo(255);
                case 2 -> upTo(1);
                case 3 -> 1 << upTo(7);
                default -> upTo(6);
            };
        }
        if (all.length > 10 && oneIn(3)) {
            fireTwo(all);
        }
        if (oneIn(4)) {
            all[0] = 3;
            all[1] = 220 + upTo(14);
        }
        if (!oneIn(8)) {
            Check.sealed(all);
        }
        feedAll(Check.bytes(oneIn(12) ? java.util.Arrays.copyOf(all, all.length + 1 - upTo(2)) : all));
        due("on", y.on(), x.on());
    }

    private static void fireTwo(int[] all) {
        int children = x.has(0);
        int one = random.nextInt(Math.max(1, children));
        int other = random.nextInt(Math.max(1, children));
        for (int c : new int[] {one, other}) {
            int from = 4 + 6 * c;
            all[from] = 1;
            all[from + 1] = 255;
            all[from + 2] = 255;
            all[from + 3] = upTo(101);
            all[from + 4] = upTo(1);
            all[from + 5] = c == one ? 1 << other : 1 << one;
        }
    }

    private static void rowsSeen() {
        int rows = oneIn(5) ? upTo(18) : upTo(3);
        int heat = upTo(20);
        int[] all = new int[rows * 3 + (oneIn(8) ? 1 : 0)];
        for (int k = 0; k + 2 < all.length; k += 3) {
            all[k] = random.nextInt(Math.max(1, x.has(0)));
            all[k + 1] = upTo(5);
            all[k + 2] = Math.max(0, x.rings(all[k], heat, all[k + 1]));
        }
        if (all.length > 0 && oneIn(4)) {
            all[random.nextInt(all.length)] = upTo(110);
        }
        feedAll(Check.bytes(all));
        due("see", y.see(), x.see());
    }
}
