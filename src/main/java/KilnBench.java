import java.util.Arrays;

/** A town told as a text, whose kilns fire its children week by week. */
public final class KilnBench {
    public static final int NONE = -1;

    private static final int TAPE_MOST = 1600;
    private static final int STATEMENTS_MOST = 80;
    private static final int CHILDREN_MOST = 8;
    private static final int KILNS_MOST = 3;
    private static final int PLACES_MOST = 6;
    private static final int HEAT_MOST = 20;
    private static final int TEMPER_MOST = 99;
    private static final int FUEL_MOST = 9999;
    private static final int WEEK_MOST = 999;
    private static final int AHEAD_MOST = 40;
    private static final int ACTS_MOST = 20;
    private static final int SEEN_MOST = 16;
    private static final int GUST_MOST = 3;
    private static final int LETTERS_MOST = 6;
    private static final int DIGITS_MOST = 4;
    private static final int OPEN_MOST = 7;
    private static final int RESULT_MOST = 1000000;

    private static final int WRONG_BYTE = 1;
    private static final int NAME_TWICE = 2;
    private static final int WRONG_NUMBER = 4;
    private static final int TOO_DEEP = 5;
    private static final int TOO_MANY = 6;

    private static final int BY_TAPE = 0;
    private static final int BY_TOWN = 1;
    private static final int BY_WEEKS = 2;
    private static final int BY_BENCH = 3;
    private static final int BY_UNDO = 4;
    private static final int BY_TELLING = 5;

    /** What one letter of a name is worth in the number that holds the name. */
    private static final int[] LETTER_WORTH = {14348907, 531441, 19683, 729, 27, 1};

    private final byte[] tape = new byte[TAPE_MOST];
    private int tapeLength = 0;
    private Town town = new Town();
    private Town spare = new Town();
    private final Parser parser = new Parser(spare);
    private final Laws laws = new Laws(town);
    private final Bench now = new Bench();
    private final Bench ahead = new Bench();
    private final History history = new History();
    private final BestSearch search = new BestSearch(laws);
    private final Sight sight = new Sight();
    private final Image picture = new Image();
    private final int[] refused = new int[BY_TELLING + 1];
    private int draws = 1;
    private int faultKind = 0;
    private int faultPlace = NONE;

    public KilnBench() {
        now.begin(town);
    }

    // ---- the tape and the town

    public int feed(int a, int b, int c, int d, int e) {
        if (tapeLength + 20 > TAPE_MOST) {
            return refuseWithNone(BY_TAPE);
        }
        putWord(a);
        putWord(b);
        putWord(c);
        putWord(d);
        putWord(e);
        return tapeLength;
    }

    public boolean end(int n) {
        if (n < 0 || n > tapeLength) {
            return refuseWithFalse(BY_TAPE);
        }
        tapeLength = n;
        return true;
    }

    public int town() {
        boolean good = parser.parse(tape, tapeLength, spare);
        tapeLength = 0;
        faultKind = parser.faultKind();
        faultPlace = parser.faultPlace();
        if (!good) {
            return refuseWithNone(BY_TOWN);
        }
        Town last = town;
        town = spare;
        spare = last;
        laws.town = town;
        now.begin(town);
        sight.count = 0;
        history.count = 0;
        search.forget();
        return town.statements;
    }

    public int fault(int what) {
        switch (what) {
            case 0: return faultKind;
            case 1: return faultPlace;
            default: return NONE;
        }
    }

    // ---- what there is

    public int has(int what) {
        switch (what) {
            case 0: return town.children;
            case 1: return town.kilns;
            case 2: return now.week;
            case 3: return now.yard;
            case 4: return now.countSet();
            case 5: return now.countFired();
            case 6: return now.countCracked();
            case 7: return now.countLit();
            case 8: return now.firings;
            case 9: return sight.count;
            case 10: return history.count;
            case 11: return draws;
            default: return NONE;
        }
    }

    public int letter(int kind, int which, int k) {
        if (k < 0 || k >= LETTERS_MOST) {
            return NONE;
        }
        if (kind == 0 && isChild(which)) {
            return town.childName[which] / LETTER_WORTH[k] % 27;
        }
        if (kind == 1 && isKiln(which)) {
            return town.kilnName[which] / LETTER_WORTH[k] % 27;
        }
        return NONE;
    }

    public int child(int child, int what) {
        if (!isChild(child)) {
            return NONE;
        }
        switch (what) {
            case 0: return town.clay[child];
            case 1: return town.grit[child];
            case 2: return now.kilnOf[child];
            case 3: return now.placeOf[child];
            case 4: return now.isFired(child) ? 1 : 0;
            case 5: return now.temper[child];
            case 6: return now.cracked[child];
            default: return NONE;
        }
    }

    public int kiln(int kiln, int what) {
        if (!isKiln(kiln)) {
            return NONE;
        }
        switch (what) {
            case 0: return town.rooms[kiln];
            case 1: return now.countIn(kiln);
            case 2: return now.lit[kiln];
            case 3: return now.lit[kiln] == NONE ? NONE : laws.burnt(now, kiln);
            default: return NONE;
        }
    }

    public int place(int kiln, int place) {
        return isPlaceOf(kiln, place) ? now.whoIsIn(kiln, place) : NONE;
    }

    // ---- how one rings

    public int rings(int child, int heat, int place) {
        if (!isChild(child) || !isHeat(heat) || !isPlace(place)) {
            return NONE;
        }
        return laws.temperOf(child, heat, place, now.week);
    }

    public int cracks(int child, int heat, int place) {
        if (!isChild(child) || !isHeat(heat) || !isPlace(place)) {
            return NONE;
        }
        int temper = laws.temperOf(child, heat, place, now.week);
        return laws.isCracked(child, heat, place, now.week, temper) ? 1 : 0;
    }

    public int heats(int child, int place, int least, int most) {
        if (!isChild(child) || !isPlace(place)) {
            return NONE;
        }
        int bits = 0;
        for (int heat = 0; heat <= HEAT_MOST; heat++) {
            int temper = laws.temperOf(child, heat, place, now.week);
            boolean asTold = temper >= least && temper <= most;
            if (asTold && !laws.isCracked(child, heat, place, now.week, temper)) {
                bits |= 1 << heat;
            }
        }
        return bits;
    }

    // ---- benches

    public int safe(int kiln) {
        if (!isKiln(kiln) || now.countIn(kiln) == 0) {
            return NONE;
        }
        for (int heat = HEAT_MOST; heat >= 0; heat--) {
            if (laws.isSafe(now, kiln, heat)) {
                return heat;
            }
        }
        return NONE;
    }

    public int best(int kiln, int what) {
        if (!isKiln(kiln) || what < 0 || what >= 2 + town.rooms[kiln]) {
            return NONE;
        }
        search.find(now, kiln);
        if (search.bestHeat == NONE) {
            return NONE;
        }
        switch (what) {
            case 0: return search.bestHeat;
            case 1: return search.bestSum;
            default: return search.bestRow[what - 2];
        }
    }

    public int brothers(int child) {
        return isChild(child) ? now.brothersOf(child) : NONE;
    }

    // ---- ahead

    public int fired(int kiln) {
        if (!isKiln(kiln) || now.lit[kiln] == NONE) {
            return NONE;
        }
        ahead.copyFrom(now);
        for (int k = 0; k < AHEAD_MOST && ahead.week < WEEK_MOST; k++) {
            laws.passWeek(ahead, 0);
            if (ahead.lit[kiln] == NONE) {
                return k;
            }
        }
        return NONE;
    }

    public int fuel(int n) {
        return lookAhead(n) ? ahead.yard : NONE;
    }

    public int later(int child, int n) {
        return isChild(child) && lookAhead(n) ? ahead.temper[child] : NONE;
    }

    public int odds(int child) {
        if (!isChild(child) || now.week >= WEEK_MOST) {
            return NONE;
        }
        int kiln = now.kilnOf[child];
        if (!isKiln(kiln) || now.lit[kiln] == NONE) {
            return NONE;
        }
        lookAhead(1);
        return ahead.isFired(child) ? crackingRows(child, now.lit[kiln]) : 0;
    }

    // ---- by which heat

    public int see() {
        int length = tapeLength;
        tapeLength = 0;
        return sight.read(tape, length, town.children) ? sight.count : refuseWithNone(BY_TELLING);
    }

    public int seen() {
        return sight.heatsLeft(laws, now.week);
    }

    public int tells(int what) {
        if (what < 0 || what > 2 || !sight.findTelling(laws, now.week)) {
            return NONE;
        }
        switch (what) {
            case 0: return sight.tellingChild;
            case 1: return sight.tellingPlace;
            default: return sight.tellingMost;
        }
    }

    // ---- acts

    public int weeks(int n) {
        if (!canPass(n)) {
            return refuseWithNone(BY_WEEKS);
        }
        beginAct();
        int firings = 0;
        for (int k = 0; k < n; k++) {
            firings += laws.passWeek(now, 0);
        }
        return firings;
    }

    public int chance(int n) {
        if (!canPass(n)) {
            return refuseWithNone(BY_WEEKS);
        }
        beginAct();
        int gusts = 0;
        for (int k = 0; k < n; k++) {
            int gust = draw(100) < town.wind ? 1 + draw(GUST_MOST) : 0;
            if (gust > 0) {
                gusts++;
            }
            laws.passWeek(now, gust);
        }
        return gusts;
    }

    public boolean set(int child, int kiln, int place) {
        boolean can = isChild(child) && isPlaceOf(kiln, place)
            && !now.isFired(child) && now.whoIsIn(kiln, place) == NONE;
        if (!can) {
            return refuseWithFalse(BY_BENCH);
        }
        beginAct();
        now.kilnOf[child] = kiln;
        now.placeOf[child] = place;
        return true;
    }

    public boolean take(int child) {
        if (!isChild(child) || now.kilnOf[child] == NONE) {
            return refuseWithFalse(BY_BENCH);
        }
        beginAct();
        now.takeOut(child);
        return true;
    }

    public boolean light(int kiln, int heat) {
        boolean can = isKiln(kiln) && (isHeat(heat) || heat == NONE) && now.lit[kiln] != heat;
        if (!can) {
            return refuseWithFalse(BY_BENCH);
        }
        beginAct();
        now.lit[kiln] = heat;
        return true;
    }

    public boolean undo() {
        if (!history.giveBack(now)) {
            return refuseWithFalse(BY_UNDO);
        }
        search.forget();
        return true;
    }

    public boolean seed(int seed) {
        if (seed < 0) {
            return refuseWithFalse(BY_TELLING);
        }
        draws = seed;
        return true;
    }

    public int kept(int k, int what) {
        if (k < 0 || k >= now.firings || what < 0 || what >= Bench.KEPT_WIDTH) {
            return NONE;
        }
        return now.kept[k * Bench.KEPT_WIDTH + what];
    }

    // ---- images, refusals

    public int image() {
        picture.write(now, town);
        return picture.length;
    }

    public int octet(int k) {
        return k >= 0 && k < picture.length ? picture.bytes[k] : NONE;
    }

    public boolean on() {
        int length = tapeLength;
        tapeLength = 0;
        // The image is read beside what stands, for a refusal must leave all as it is.
        if (!picture.read(tape, length, town, ahead)) {
            return refuseWithFalse(BY_TELLING);
        }
        now.copyFrom(ahead);
        history.count = 0;
        search.forget();
        return true;
    }

    public int status(int what) {
        return what >= 0 && what < refused.length ? refused[what] : NONE;
    }

    // ---- helpers of the face

    private int refuseWithNone(int what) {
        refused[what]++;
        return NONE;
    }

    private boolean refuseWithFalse(int what) {
        refused[what]++;
        return false;
    }

    private void putWord(int word) {
        for (int shift = 24; shift >= 0 && tapeLength < TAPE_MOST; shift -= 8) {
            tape[tapeLength] = (byte) (word >> shift);
            tapeLength++;
        }
    }

    private boolean isChild(int child) {
        return child >= 0 && child < town.children;
    }

    private boolean isKiln(int kiln) {
        return kiln >= 0 && kiln < town.kilns;
    }

    private boolean isPlaceOf(int kiln, int place) {
        return isKiln(kiln) && place >= 0 && place < town.rooms[kiln];
    }

    private static boolean isPlace(int place) {
        return place >= 0 && place < PLACES_MOST;
    }

    private static boolean isHeat(int heat) {
        return heat >= 0 && heat <= HEAT_MOST;
    }

    private boolean canPass(int n) {
        return n >= 1 && n <= AHEAD_MOST && now.week + n <= WEEK_MOST;
    }

    private void beginAct() {
        history.keep(now);
        search.forget();
    }

    private boolean lookAhead(int n) {
        if (n != 0 && !canPass(n)) {
            return false;
        }
        ahead.copyFrom(now);
        for (int k = 0; k < n; k++) {
            laws.passWeek(ahead, 0);
        }
        return true;
    }

    private int draw(int m) {
        draws = (int) (1103515245L * draws + 12345L & 0x7fffffffL);
        return m > 0 ? draws / 64 % m : 0;
    }

    /** Of the 300 rows those by which a child cracks in a kiln that is sure to be fired. */
    private int crackingRows(int child, int lit) {
        int still = cracks(child, lit, now.placeOf[child]);
        int rows = (100 - town.wind) * GUST_MOST * still;
        for (int gust = 1; gust <= GUST_MOST; gust++) {
            int heat = Math.min(HEAT_MOST, lit + gust);
            rows += town.wind * cracks(child, heat, now.placeOf[child]);
        }
        return rows;
    }

    /** The kinds of what stands in a text: a sign is its own byte, an own word 256 and on. */
    private static final class Token {
        /** In the order of the numbers below, each with a blank behind it. */
        static final String OWN_WORDS = "child clay grit kiln room temper cracks sticks burns fuel load wind heat week place rings near grits full if or and not all min max ";
        static final int FIRST_WORD = 256;
        static final int CHILD = 256;
        static final int CLAY = 257;
        static final int GRIT = 258;
        static final int KILN = 259;
        static final int ROOM = 260;
        static final int TEMPER = 261;
        static final int CRACKS = 262;
        static final int STICKS = 263;
        static final int BURNS = 264;
        static final int FUEL = 265;
        static final int LOAD = 266;
        static final int WIND = 267;
        static final int HEAT = 268;
        static final int WEEK = 269;
        static final int PLACE = 270;
        static final int RINGS = 271;
        static final int NEAR = 272;
        static final int GRITS = 273;
        static final int FULL = 274;
        static final int IF = 275;
        static final int OR = 276;
        static final int AND = 277;
        static final int NOT = 278;
        static final int ALL = 279;
        static final int MIN = 280;
        static final int MAX = 281;
        /** A word that is no own word. */
        static final int NAME = 282;
        static final int NUMBER = 283;
        static final int END = 284;
        /** Behind a fault nothing more is read. */
        static final int BROKEN = 285;
        static final int WORDS = NAME - FIRST_WORD;

        static boolean isWord(int token) {
            return token >= FIRST_WORD && token <= NAME;
        }
    }

    /** Cuts the text into words, numbers and signs, and holds the first fault. */
    private static final class Reader {
        private final int[] ownWords = new int[Token.WORDS];
        private byte[] text = new byte[0];
        private int length = 0;
        private int behind = 0;
        int token = Token.END;
        int at = 0;
        /** A word as a number of base 27 with six places, or the number that stands there. */
        int value = 0;
        int fault = 0;
        int faultAt = NONE;

        Reader() {
            int word = 0;
            int letters = 0;
            for (int k = 0; k < Token.OWN_WORDS.length() && word < ownWords.length; k++) {
                char sign = Token.OWN_WORDS.charAt(k);
                if (sign == ' ') {
                    word++;
                    letters = 0;
                } else if (letters < LETTERS_MOST) {
                    ownWords[word] += (sign - 'a' + 1) * LETTER_WORTH[letters];
                    letters++;
                }
            }
        }

        void start(byte[] from, int bytes) {
            text = from;
            length = Math.min(bytes, from.length);
            behind = 0;
            token = Token.END;
            fault = 0;
            faultAt = NONE;
            next();
        }

        void fail(int kind, int where) {
            if (fault == 0) {
                fault = kind;
                faultAt = where;
            }
            token = Token.BROKEN;
        }

        void next() {
            if (fault != 0) {
                return;
            }
            int last = token;
            at = upcoming();
            boolean joined = at == behind;
            if (at >= length) {
                token = Token.END;
            } else if (isLetter(text[at])) {
                readWord(joined && last == Token.NUMBER);
            } else if (isDigit(text[at])) {
                readNumber(joined && Token.isWord(last));
            } else {
                token = text[at] & 255;
                behind = at + 1;
            }
        }

        /** Where that begins which comes next: the text's length, if nothing does. */
        int upcoming() {
            int k = behind;
            while (k < length && isBlank(text[k])) {
                k++;
            }
            return k;
        }

        boolean isAtEnd() {
            return upcoming() >= length;
        }

        private void readWord(boolean lacksBlank) {
            if (lacksBlank) {
                fail(WRONG_BYTE, at);
                return;
            }
            value = 0;
            int k = at;
            for (; k < length && isLetter(text[k]); k++) {
                if (k - at >= LETTERS_MOST) {
                    fail(WRONG_BYTE, k);
                    return;
                }
                value += (text[k] - 'a' + 1) * LETTER_WORTH[k - at];
            }
            behind = k;
            token = tokenOf(value);
        }

        private void readNumber(boolean lacksBlank) {
            if (lacksBlank) {
                fail(WRONG_BYTE, at);
                return;
            }
            value = 0;
            int k = at;
            for (; k < length && isDigit(text[k]); k++) {
                if (k - at >= DIGITS_MOST) {
                    fail(WRONG_BYTE, k);
                    return;
                }
                value = 10 * value + text[k] - '0';
            }
            behind = k;
            token = Token.NUMBER;
        }

        private int tokenOf(int word) {
            for (int k = 0; k < ownWords.length; k++) {
                if (ownWords[k] == word) {
                    return Token.FIRST_WORD + k;
                }
            }
            return Token.NAME;
        }

        private static boolean isBlank(int sign) {
            return sign == 10 || sign == 32;
        }

        private static boolean isLetter(int sign) {
            return sign >= 'a' && sign <= 'z';
        }

        private static boolean isDigit(int sign) {
            return sign >= '0' && sign <= '9';
        }
    }

    /** What a text tells: it does not change until another text is read. */
    private static final class Town {
        private static final int FORMULAS = 4;

        final int[] childName = new int[CHILDREN_MOST];
        final int[] clay = new int[CHILDREN_MOST];
        final int[] grit = new int[CHILDREN_MOST];
        int children = 0;
        final int[] kilnName = new int[KILNS_MOST];
        final int[] rooms = new int[KILNS_MOST];
        int kilns = 0;
        int stock = 0;
        int load = 0;
        int wind = 0;
        int statements = 0;
        /** All sums and tests, each with its operands ahead of its sign, one behind the other. */
        private final int[] code = new int[TAPE_MOST];
        private int codeLength = 0;
        private final int[] codeFrom = new int[FORMULAS];
        private final int[] codeTo = new int[FORMULAS];

        void clear() {
            children = 0;
            kilns = 0;
            stock = 0;
            load = 0;
            wind = 0;
            statements = 0;
            codeLength = 0;
            Arrays.fill(codeFrom, 0);
            Arrays.fill(codeTo, 0);
        }

        boolean knows(int name) {
            for (int k = 0; k < children; k++) {
                if (childName[k] == name) {
                    return true;
                }
            }
            for (int k = 0; k < kilns; k++) {
                if (kilnName[k] == name) {
                    return true;
                }
            }
            return false;
        }

        boolean hasNoMoreOf(int kind) {
            switch (kind) {
                case Token.CHILD: return children >= CHILDREN_MOST;
                case Token.KILN: return kilns >= KILNS_MOST;
                default: return hasFormula(kind);
            }
        }

        void addChild(int name, int itsClay, int itsGrit) {
            if (children < CHILDREN_MOST) {
                childName[children] = name;
                clay[children] = itsClay;
                grit[children] = itsGrit;
                children++;
            }
        }

        void addKiln(int name, int room) {
            if (kilns < KILNS_MOST) {
                kilnName[kilns] = name;
                rooms[kilns] = room;
                kilns++;
            }
        }

        private static boolean isFormula(int kind) {
            return kind >= Token.TEMPER && kind <= Token.BURNS;
        }

        boolean hasFormula(int kind) {
            return isFormula(kind) && codeTo[kind - Token.TEMPER] > codeFrom[kind - Token.TEMPER];
        }

        void beginFormula(int kind) {
            if (isFormula(kind)) {
                codeFrom[kind - Token.TEMPER] = codeLength;
            }
        }

        void endFormula(int kind) {
            if (isFormula(kind)) {
                codeTo[kind - Token.TEMPER] = codeLength;
            }
        }

        void addCode(int op) {
            if (codeLength < code.length) {
                code[codeLength] = op;
                codeLength++;
            }
        }
    }

    /** Reads a whole text into a town, one statement behind the other. */
    private static final class Parser {
        private final Reader reader = new Reader();
        private Town town;
        private int formula = 0;
        private int open = 0;

        Parser(Town first) {
            town = first;
        }

        boolean parse(byte[] text, int length, Town into) {
            town = into;
            town.clear();
            open = 0;
            reader.start(text, length);
            for (int k = 0; k < STATEMENTS_MOST && reader.token != Token.END && reader.fault == 0; k++) {
                readStatement();
            }
            return reader.fault == 0;
        }

        int faultKind() {
            return reader.fault;
        }

        int faultPlace() {
            return reader.faultAt;
        }

        private static boolean beginsStatement(int token) {
            boolean thing = token == Token.CHILD || token == Token.KILN;
            return thing || token >= Token.TEMPER && token <= Token.WIND;
        }

        private void readStatement() {
            int kind = reader.token;
            if (!beginsStatement(kind)) {
                reader.fail(WRONG_BYTE, reader.at);
                return;
            }
            if (town.hasNoMoreOf(kind)) {
                reader.fail(TOO_MANY, reader.at);
                return;
            }
            reader.next();
            switch (kind) {
                case Token.CHILD: readChild(); break;
                case Token.KILN: readKiln(); break;
                case Token.FUEL: town.stock = number(0, 999); break;
                case Token.LOAD: town.load = number(0, 999); break;
                case Token.WIND: town.wind = number(0, 100); break;
                default: break;
            }
            if (Town.isFormula(kind)) {
                formula = kind;
                town.beginFormula(kind);
                if (kind == Token.TEMPER || kind == Token.BURNS) {
                    readSum();
                } else {
                    readTest();
                }
                town.endFormula(kind);
            }
            endStatement();
        }

        /** Behind the last that may be there, one too many is told before it is cut into words. */
        private void endStatement() {
            if (reader.token != ';') {
                reader.fail(WRONG_BYTE, reader.at);
                return;
            }
            town.statements++;
            if (town.statements >= STATEMENTS_MOST && !reader.isAtEnd()) {
                reader.fail(TOO_MANY, reader.upcoming());
            }
            reader.next();
        }

        private void readChild() {
            int name = newName();
            expect(Token.CLAY);
            int clay = number(0, 99);
            expect(Token.GRIT);
            int grit = number(0, 9);
            town.addChild(name, clay, grit);
        }

        private void readKiln() {
            int name = newName();
            expect(Token.ROOM);
            int room = number(1, PLACES_MOST);
            town.addKiln(name, room);
        }

        private void expect(int token) {
            if (reader.token == token) {
                reader.next();
            } else {
                reader.fail(WRONG_BYTE, reader.at);
            }
        }

        private int newName() {
            int name = reader.value;
            if (reader.token != Token.NAME) {
                reader.fail(WRONG_BYTE, reader.at);
            } else if (town.knows(name)) {
                reader.fail(NAME_TWICE, reader.at);
            } else {
                reader.next();
            }
            return name;
        }

        /** The number is judged before more is read: its fault lies ahead of any later one. */
        private int number(int least, int most) {
            int value = reader.value;
            if (reader.token != Token.NUMBER) {
                reader.fail(WRONG_BYTE, reader.at);
            } else if (value < least || value > most) {
                reader.fail(WRONG_NUMBER, reader.at);
            } else {
                reader.next();
                return value;
            }
            return least;
        }

        /** What is open at once is bounded here, and so is how deep the reading calls itself. */
        private boolean openOne(int token) {
            if (reader.token != token) {
                reader.fail(WRONG_BYTE, reader.at);
                return false;
            }
            if (open >= OPEN_MOST) {
                reader.fail(TOO_DEEP, reader.at);
                return false;
            }
            open++;
            reader.next();
            return true;
        }

        private void closeOne(int token) {
            open--;
            if (reader.token == token) {
                reader.next();
            } else {
                reader.fail(WRONG_BYTE, reader.at);
            }
        }

        private void readSum() {
            readProduct();
            for (int k = 0; k < TAPE_MOST && (reader.token == '+' || reader.token == '-'); k++) {
                int sign = reader.token;
                reader.next();
                readProduct();
                town.addCode(sign);
            }
        }

        private void readProduct() {
            readPart();
            for (int k = 0; k < TAPE_MOST && isProductSign(reader.token); k++) {
                int sign = reader.token;
                reader.next();
                readPart();
                town.addCode(sign);
            }
        }

        private static boolean isProductSign(int token) {
            return token == '*' || token == '/' || token == '%';
        }

        private void readPart() {
            int token = reader.token;
            switch (token) {
                case Token.NUMBER:
                    town.addCode(Machine.FIRST_NUMBER + reader.value);
                    reader.next();
                    break;
                case '(':
                    readBracket();
                    break;
                case Token.MIN:
                case Token.MAX:
                case Token.IF:
                    readChoice(token);
                    break;
                default:
                    readFactWord(token);
                    break;
            }
        }

        private void readBracket() {
            if (openOne('(')) {
                readSum();
                closeOne(')');
            }
        }

        private void readChoice(int word) {
            reader.next();
            if (!openOne('(')) {
                return;
            }
            if (word == Token.IF) {
                readTest();
                expect(',');
            }
            readSum();
            expect(',');
            readSum();
            closeOne(')');
            town.addCode(word);
        }

        private void readFactWord(int word) {
            if (mayStand(word)) {
                town.addCode(word);
                reader.next();
            } else {
                reader.fail(WRONG_BYTE, reader.at);
            }
        }

        private boolean mayStand(int word) {
            switch (word) {
                case Token.HEAT:
                case Token.WEEK:
                    return true;
                case Token.CLAY:
                case Token.GRIT:
                case Token.PLACE:
                    return formula == Token.TEMPER || formula == Token.CRACKS;
                case Token.RINGS:
                    return formula == Token.CRACKS;
                case Token.NEAR:
                case Token.GRITS:
                    return formula == Token.STICKS;
                case Token.ROOM:
                case Token.FULL:
                    return formula == Token.BURNS;
                default:
                    return false;
            }
        }

        private void readTest() {
            readBoth();
            for (int k = 0; k < TAPE_MOST && reader.token == Token.OR; k++) {
                reader.next();
                readBoth();
                town.addCode(Token.OR);
            }
        }

        private void readBoth() {
            readFact();
            for (int k = 0; k < TAPE_MOST && reader.token == Token.AND; k++) {
                reader.next();
                readFact();
                town.addCode(Token.AND);
            }
        }

        private void readFact() {
            switch (reader.token) {
                case Token.NOT:
                    readNot();
                    break;
                case '[':
                    if (openOne('[')) {
                        readTest();
                        closeOne(']');
                    }
                    break;
                case Token.ALL:
                    town.addCode(Token.ALL);
                    reader.next();
                    break;
                default:
                    readComparison();
                    break;
            }
        }

        private void readNot() {
            if (openOne(Token.NOT)) {
                readFact();
                open--;
                town.addCode(Token.NOT);
            }
        }

        private void readComparison() {
            readSum();
            int sign = reader.token;
            if (sign != '<' && sign != '>' && sign != '=') {
                reader.fail(WRONG_BYTE, reader.at);
                return;
            }
            reader.next();
            readSum();
            town.addCode(sign);
        }
    }

    /** Works out sums and tests; a test that holds is 1, else 0. */
    private static final class Machine {
        static final int FIRST_NUMBER = 1000;
        /** Seven open at once leave some five operands each to wait: 64 are more than can be. */
        private static final int STACK_MOST = 64;

        private final int[] facts = new int[Token.WORDS];
        private final int[] stack = new int[STACK_MOST];

        void tell(int word, int value) {
            int k = word - Token.FIRST_WORD;
            if (k >= 0 && k < facts.length) {
                facts[k] = value;
            }
        }

        int valueOf(Town town, int kind) {
            int formula = kind - Token.TEMPER;
            if (formula < 0 || formula >= Town.FORMULAS) {
                return 0;
            }
            int top = 0;
            for (int k = town.codeFrom[formula]; k < town.codeTo[formula]; k++) {
                int op = town.code[k];
                int base = top - operandsOf(op);
                if (base < 0 || base + 2 >= STACK_MOST) {
                    return 0;
                }
                long result = resultOf(op, base);
                stack[base] = (int) Math.max(-RESULT_MOST, Math.min(RESULT_MOST, result));
                top = base + 1;
            }
            return stack[0];
        }

        private static int operandsOf(int op) {
            if (op >= FIRST_NUMBER) {
                return 0;
            }
            switch (op) {
                case Token.IF: return 3;
                case Token.NOT: return 1;
                case Token.OR: return 2;
                case Token.AND: return 2;
                case Token.MIN: return 2;
                case Token.MAX: return 2;
                default: return op < Token.FIRST_WORD ? 2 : 0;
            }
        }

        /** A product of two bounded numbers may need a long until it is bounded itself. */
        private long resultOf(int op, int base) {
            if (op >= FIRST_NUMBER) {
                return op - FIRST_NUMBER;
            }
            int a = stack[base];
            int b = stack[base + 1];
            int fact = op - Token.FIRST_WORD;
            switch (op) {
                case '+': return a + b;
                case '-': return a - b;
                case '*': return (long) a * b;
                case '/': return b == 0 ? 0 : Math.floorDiv(a, b);
                case '%': return b == 0 ? 0 : Math.floorMod(a, b);
                case '<': return a < b ? 1 : 0;
                case '>': return a > b ? 1 : 0;
                case '=': return a == b ? 1 : 0;
                case Token.MIN: return Math.min(a, b);
                case Token.MAX: return Math.max(a, b);
                case Token.IF: return a != 0 ? b : stack[base + 2];
                case Token.OR: return a | b;
                case Token.AND: return a & b;
                case Token.NOT: return 1 - a;
                case Token.ALL: return 1;
                default: return fact >= 0 && fact < facts.length ? facts[fact] : 0;
            }
        }
    }

    /** What may change: the week, the yard, the children and the kilns, and what is kept. */
    private static final class Bench {
        static final int KEPT_WIDTH = 4;
        /** A firing needs a child that was raw, and a child is fired for good. */
        private static final int FIRINGS_MOST = CHILDREN_MOST;

        int week = 0;
        int yard = 0;
        final int[] kilnOf = new int[CHILDREN_MOST];
        final int[] placeOf = new int[CHILDREN_MOST];
        /** NONE as long as a child is raw. */
        final int[] temper = new int[CHILDREN_MOST];
        final int[] cracked = new int[CHILDREN_MOST];
        final int[] stuck = new int[CHILDREN_MOST];
        final int[] lit = new int[KILNS_MOST];
        final int[] kept = new int[FIRINGS_MOST * KEPT_WIDTH];
        int firings = 0;

        void begin(Town town) {
            week = 0;
            yard = town.stock;
            firings = 0;
            Arrays.fill(kilnOf, NONE);
            Arrays.fill(placeOf, NONE);
            Arrays.fill(temper, NONE);
            Arrays.fill(cracked, 0);
            Arrays.fill(stuck, 0);
            Arrays.fill(lit, NONE);
        }

        void copyFrom(Bench other) {
            week = other.week;
            yard = other.yard;
            firings = other.firings;
            System.arraycopy(other.kilnOf, 0, kilnOf, 0, CHILDREN_MOST);
            System.arraycopy(other.placeOf, 0, placeOf, 0, CHILDREN_MOST);
            System.arraycopy(other.temper, 0, temper, 0, CHILDREN_MOST);
            System.arraycopy(other.cracked, 0, cracked, 0, CHILDREN_MOST);
            System.arraycopy(other.stuck, 0, stuck, 0, CHILDREN_MOST);
            System.arraycopy(other.lit, 0, lit, 0, KILNS_MOST);
            System.arraycopy(other.kept, 0, kept, 0, firings * KEPT_WIDTH);
        }

        boolean isFired(int child) {
            return temper[child] != NONE;
        }

        int whoIsIn(int kiln, int place) {
            for (int child = 0; child < CHILDREN_MOST; child++) {
                if (kilnOf[child] == kiln && placeOf[child] == place) {
                    return child;
                }
            }
            return NONE;
        }

        int countIn(int kiln) {
            int count = 0;
            for (int child = 0; child < CHILDREN_MOST; child++) {
                count += kilnOf[child] == kiln ? 1 : 0;
            }
            return count;
        }

        int countSet() {
            return CHILDREN_MOST - countIn(NONE);
        }

        int countFired() {
            int count = 0;
            for (int child = 0; child < CHILDREN_MOST; child++) {
                count += isFired(child) ? 1 : 0;
            }
            return count;
        }

        int countCracked() {
            int count = 0;
            for (int child = 0; child < CHILDREN_MOST; child++) {
                count += cracked[child];
            }
            return count;
        }

        int countLit() {
            int count = 0;
            for (int kiln = 0; kiln < KILNS_MOST; kiln++) {
                count += lit[kiln] == NONE ? 0 : 1;
            }
            return count;
        }

        void takeOut(int child) {
            kilnOf[child] = NONE;
            placeOf[child] = NONE;
        }

        void comeOut(int child, int itsTemper, int isCracked) {
            takeOut(child);
            temper[child] = itsTemper;
            cracked[child] = isCracked;
        }

        void stick(int one, int other) {
            stuck[one] |= 1 << other;
            stuck[other] |= 1 << one;
        }

        /** Each round takes in those one step further; no chain is longer than all children. */
        int brothersOf(int child) {
            if (!isFired(child)) {
                return 0;
            }
            int all = 1 << child;
            for (int round = 0; round < CHILDREN_MOST; round++) {
                for (int k = 0; k < CHILDREN_MOST; k++) {
                    if ((all >> k & 1) == 1) {
                        all |= stuck[k];
                    }
                }
            }
            return all;
        }

        void keepFiring(int kiln, int heat, int cracks) {
            if (firings < FIRINGS_MOST) {
                int k = firings * KEPT_WIDTH;
                kept[k] = week;
                kept[k + 1] = kiln;
                kept[k + 2] = heat;
                kept[k + 3] = cracks;
                firings++;
            }
        }
    }

    /** What the town's sums and tests make of heat, clay and grit, and how a week goes by. */
    private static final class Laws {
        Town town;
        private final Machine machine = new Machine();

        Laws(Town first) {
            town = first;
        }

        int temperOf(int child, int heat, int place, int week) {
            if (!town.hasFormula(Token.TEMPER)) {
                return Math.min(TEMPER_MOST, 4 * heat);
            }
            tellChild(child, heat, place, week);
            int temper = machine.valueOf(town, Token.TEMPER);
            return Math.max(0, Math.min(TEMPER_MOST, temper));
        }

        boolean isCracked(int child, int heat, int place, int week, int temper) {
            if (!town.hasFormula(Token.CRACKS)) {
                return false;
            }
            tellChild(child, heat, place, week);
            machine.tell(Token.RINGS, temper);
            return machine.valueOf(town, Token.CRACKS) == 1;
        }

        private void tellChild(int child, int heat, int place, int week) {
            machine.tell(Token.HEAT, heat);
            machine.tell(Token.WEEK, week);
            machine.tell(Token.CLAY, town.clay[child]);
            machine.tell(Token.GRIT, town.grit[child]);
            machine.tell(Token.PLACE, place);
        }

        /** Whether two stick that are next to one another with tempers that differ as told. */
        boolean isStuck(int one, int other, int difference, int heat, int week) {
            if (!town.hasFormula(Token.STICKS)) {
                return false;
            }
            machine.tell(Token.HEAT, heat);
            machine.tell(Token.WEEK, week);
            machine.tell(Token.NEAR, Math.abs(difference));
            machine.tell(Token.GRITS, town.grit[one] + town.grit[other]);
            return machine.valueOf(town, Token.STICKS) == 1;
        }

        int burnt(Bench bench, int kiln) {
            int heat = bench.lit[kiln];
            if (!town.hasFormula(Token.BURNS)) {
                return heat;
            }
            machine.tell(Token.HEAT, heat);
            machine.tell(Token.WEEK, bench.week);
            machine.tell(Token.ROOM, town.rooms[kiln]);
            machine.tell(Token.FULL, bench.countIn(kiln));
            return Math.max(0, machine.valueOf(town, Token.BURNS));
        }

        boolean isSafe(Bench bench, int kiln, int heat) {
            int left = NONE;
            int leftTemper = 0;
            for (int place = 0; place < town.rooms[kiln]; place++) {
                int child = bench.whoIsIn(kiln, place);
                if (child != NONE) {
                    int temper = temperOf(child, heat, place, bench.week);
                    if (isCracked(child, heat, place, bench.week, temper)) {
                        return false;
                    }
                    if (left != NONE && isStuck(left, child, leftTemper - temper, heat, bench.week)) {
                        return false;
                    }
                    leftTemper = temper;
                }
                left = child;
            }
            return true;
        }

        /** One week by a gust (0 without): how many firings. */
        int passWeek(Bench bench, int gust) {
            bench.yard = Math.min(FUEL_MOST, bench.yard + town.load);
            int firings = 0;
            for (int kiln = 0; kiln < town.kilns; kiln++) {
                if (bench.lit[kiln] != NONE && bench.countIn(kiln) > 0) {
                    firings += tryKiln(bench, kiln, gust);
                }
            }
            bench.week++;
            return firings;
        }

        private int tryKiln(Bench bench, int kiln, int gust) {
            int burnt = burnt(bench, kiln);
            if (burnt > bench.yard) {
                return 0;
            }
            bench.yard -= burnt;
            int heat = Math.min(HEAT_MOST, bench.lit[kiln] + gust);
            int cracks = fireAll(bench, kiln, heat);
            bench.keepFiring(kiln, heat, cracks);
            bench.lit[kiln] = NONE;
            return 1;
        }

        private int fireAll(Bench bench, int kiln, int heat) {
            int cracks = 0;
            int left = NONE;
            for (int place = 0; place < town.rooms[kiln]; place++) {
                int child = bench.whoIsIn(kiln, place);
                if (child != NONE) {
                    int temper = temperOf(child, heat, place, bench.week);
                    int cracked = isCracked(child, heat, place, bench.week, temper) ? 1 : 0;
                    cracks += cracked;
                    bench.comeOut(child, temper, cracked);
                    if (left != NONE && isStuck(left, child, bench.temper[left] - temper, heat, bench.week)) {
                        bench.stick(left, child);
                    }
                }
                left = child;
            }
            return cracks;
        }
    }

    /** Looks for the best setting of a kiln, and holds it until something changes. */
    private static final class BestSearch {
        private static final int UNKNOWN = 0;
        private static final int APART = 1;
        private static final int TOGETHER = 2;

        int bestHeat = NONE;
        int bestSum = 0;
        final int[] bestRow = new int[PLACES_MOST];
        private int foundFor = NONE;
        private final Laws laws;
        private int week = 0;
        private int room = 0;
        private int heat = 0;
        /** A row has to have a greater sum than this. */
        private int beat = 0;
        private final int[] row = new int[PLACES_MOST];
        /** By child and place; NONE where it would crack. */
        private final int[] tempers = new int[CHILDREN_MOST * PLACES_MOST];
        private final int[] most = new int[CHILDREN_MOST];
        private final byte[] sticking = new byte[PLACES_MOST * CHILDREN_MOST * CHILDREN_MOST];

        BestSearch(Laws by) {
            laws = by;
        }

        void forget() {
            foundFor = NONE;
        }

        void find(Bench bench, int kiln) {
            if (foundFor == kiln) {
                return;
            }
            foundFor = kiln;
            week = bench.week;
            room = laws.town.rooms[kiln];
            bestHeat = NONE;
            bestSum = 0;
            int children = 0;
            for (int child = 0; child < CHILDREN_MOST; child++) {
                children |= bench.kilnOf[child] == kiln ? 1 << child : 0;
            }
            // From the greatest heat on, where sums tend to be greatest: so most rows fall early.
            for (int k = HEAT_MOST; k >= 0 && children != 0; k--) {
                heat = k;
                tryHeat(children);
            }
        }

        private void tryHeat(int children) {
            int hope = 0;
            for (int child = 0; child < CHILDREN_MOST; child++) {
                if ((children >> child & 1) == 1) {
                    ringEverywhere(child);
                    if (most[child] == NONE) {
                        return;
                    }
                    hope += most[child];
                }
            }
            // A like sum is enough here: of like ones the least heat counts.
            beat = bestSum - 1;
            if (hope > beat) {
                Arrays.fill(sticking, (byte) UNKNOWN);
                fillFrom(0, children, hope);
            }
        }

        private void ringEverywhere(int child) {
            most[child] = NONE;
            for (int place = 0; place < room; place++) {
                int temper = laws.temperOf(child, heat, place, week);
                if (laws.isCracked(child, heat, place, week, temper)) {
                    temper = NONE;
                }
                tempers[child * PLACES_MOST + place] = temper;
                most[child] = Math.max(most[child], temper);
            }
        }

        /** The hope is the sum so far and the most that those who wait could add. */
        private void fillFrom(int place, int waiting, int hope) {
            if (place >= room) {
                keepRow(hope);
                return;
            }
            if (room - place > Integer.bitCount(waiting)) {
                row[place] = NONE;
                fillFrom(place + 1, waiting, hope);
            }
            for (int child = 0; child < CHILDREN_MOST; child++) {
                if ((waiting >> child & 1) == 1) {
                    int temper = tempers[child * PLACES_MOST + place];
                    int reach = hope - most[child] + temper;
                    if (temper != NONE && reach > beat && !sticksToLeft(child, place)) {
                        row[place] = child;
                        fillFrom(place + 1, waiting & ~(1 << child), reach);
                    }
                }
            }
        }

        private void keepRow(int sum) {
            if (sum > beat) {
                beat = sum;
                bestSum = sum;
                bestHeat = heat;
                System.arraycopy(row, 0, bestRow, 0, room);
            }
        }

        private boolean sticksToLeft(int child, int place) {
            if (place == 0 || row[place - 1] == NONE) {
                return false;
            }
            int left = row[place - 1];
            int k = (place * CHILDREN_MOST + left) * CHILDREN_MOST + child;
            if (sticking[k] == UNKNOWN) {
                int leftTemper = tempers[left * PLACES_MOST + place - 1];
                int difference = leftTemper - tempers[child * PLACES_MOST + place];
                boolean stuck = laws.isStuck(left, child, difference, heat, week);
                sticking[k] = (byte) (stuck ? TOGETHER : APART);
            }
            return sticking[k] == TOGETHER;
        }
    }

    /** The rows that were seen, the heats they leave, and who would tell most of these. */
    private static final class Sight {
        private static final int ROW_WIDTH = 3;

        int count = 0;
        int tellingChild = NONE;
        int tellingPlace = NONE;
        int tellingMost = 0;
        private final int[] rows = new int[SEEN_MOST * ROW_WIDTH];
        private final int[] heatsByTemper = new int[TEMPER_MOST + 1];

        boolean read(byte[] tape, int length, int children) {
            if (length < ROW_WIDTH || length > rows.length || length % ROW_WIDTH != 0) {
                return false;
            }
            for (int k = 0; k < length; k += ROW_WIDTH) {
                boolean good = (tape[k] & 255) < children
                    && (tape[k + 1] & 255) < PLACES_MOST
                    && (tape[k + 2] & 255) <= TEMPER_MOST;
                if (!good) {
                    return false;
                }
            }
            for (int k = 0; k < length; k++) {
                rows[k] = tape[k] & 255;
            }
            count = length / ROW_WIDTH;
            return true;
        }

        int heatsLeft(Laws laws, int week) {
            int bits = 0;
            for (int heat = 0; heat <= HEAT_MOST; heat++) {
                if (allRingSo(laws, week, heat)) {
                    bits |= 1 << heat;
                }
            }
            return bits;
        }

        private boolean allRingSo(Laws laws, int week, int heat) {
            for (int k = 0; k < count * ROW_WIDTH; k += ROW_WIDTH) {
                if (laws.temperOf(rows[k], heat, rows[k + 1], week) != rows[k + 2]) {
                    return false;
                }
            }
            return true;
        }

        boolean findTelling(Laws laws, int week) {
            int heats = heatsLeft(laws, week);
            if (heats == 0) {
                return false;
            }
            tellingChild = NONE;
            tellingMost = HEAT_MOST + 2;
            for (int child = 0; child < laws.town.children; child++) {
                for (int place = 0; place < PLACES_MOST; place++) {
                    int left = mostLeft(laws, week, child, place, heats);
                    if (left < tellingMost) {
                        tellingChild = child;
                        tellingPlace = place;
                        tellingMost = left;
                    }
                }
            }
            return tellingChild != NONE;
        }

        /** Stops where it is no fewer than the fewest so far, for more can't change that. */
        private int mostLeft(Laws laws, int week, int child, int place, int heats) {
            Arrays.fill(heatsByTemper, 0);
            int left = 1;
            for (int heat = 0; heat <= HEAT_MOST && left < tellingMost; heat++) {
                if ((heats >> heat & 1) == 1) {
                    int temper = laws.temperOf(child, heat, place, week);
                    heatsByTemper[temper]++;
                    left = Math.max(left, heatsByTemper[temper]);
                }
            }
            return left;
        }
    }

    /** The benches as they were ahead of the latest acts, in a ring that is used again. */
    private static final class History {
        private final Bench[] past = new Bench[ACTS_MOST];
        private int next = 0;
        int count = 0;

        History() {
            for (int k = 0; k < past.length; k++) {
                past[k] = new Bench();
            }
        }

        void keep(Bench bench) {
            past[next].copyFrom(bench);
            next = (next + 1) % ACTS_MOST;
            count = Math.min(ACTS_MOST, count + 1);
        }

        boolean giveBack(Bench bench) {
            if (count == 0) {
                return false;
            }
            next = (next + ACTS_MOST - 1) % ACTS_MOST;
            count--;
            bench.copyFrom(past[next]);
            return true;
        }
    }

    /** A bench as bytes, and back. */
    private static final class Image {
        private static final int HEAD = 4;
        private static final int CHILD_WIDTH = 6;
        private static final int NOTHING = 255;

        final int[] bytes = new int[HEAD + CHILDREN_MOST * CHILD_WIDTH + KILNS_MOST + 1];
        int length = 0;

        void write(Bench bench, Town town) {
            length = 0;
            put(bench.week >> 8);
            put(bench.week);
            put(bench.yard >> 8);
            put(bench.yard);
            for (int child = 0; child < town.children; child++) {
                put(bench.isFired(child) ? 1 : 0);
                put(bench.kilnOf[child]);
                put(bench.placeOf[child]);
                put(bench.temper[child]);
                put(bench.cracked[child]);
                put(bench.stuck[child]);
            }
            for (int kiln = 0; kiln < town.kilns; kiln++) {
                put(bench.lit[kiln]);
            }
            int check = 241;
            for (int k = 0; k < length; k++) {
                check = addToCheck(check, bytes[k]);
            }
            put(check);
        }

        /** NONE becomes 255 by the mask. */
        private void put(int value) {
            if (length < bytes.length) {
                bytes[length] = value & 255;
                length++;
            }
        }

        private static int addToCheck(int check, int value) {
            return (5 * check + value) % 251;
        }

        boolean read(byte[] tape, int tapeLength, Town town, Bench into) {
            int kilnsFrom = HEAD + town.children * CHILD_WIDTH;
            int last = kilnsFrom + town.kilns;
            if (tapeLength != last + 1 || !isChecked(tape, last)) {
                return false;
            }
            into.begin(town);
            into.week = (tape[0] & 255) << 8 | tape[1] & 255;
            into.yard = (tape[2] & 255) << 8 | tape[3] & 255;
            boolean good = into.week <= WEEK_MOST && into.yard <= FUEL_MOST;
            for (int child = 0; child < town.children && good; child++) {
                good = readChild(tape, HEAD + child * CHILD_WIDTH, town, into, child);
            }
            for (int kiln = 0; kiln < town.kilns && good; kiln++) {
                int heat = byteOrNone(tape[kilnsFrom + kiln]);
                into.lit[kiln] = heat;
                good = heat <= HEAT_MOST;
            }
            return good && isStuckBothWays(into);
        }

        private static boolean isChecked(byte[] tape, int last) {
            int check = 241;
            for (int k = 0; k < last; k++) {
                check = addToCheck(check, tape[k] & 255);
            }
            return check == (tape[last] & 255);
        }

        private static int byteOrNone(byte value) {
            int number = value & 255;
            return number == NOTHING ? NONE : number;
        }

        private static boolean readChild(byte[] tape, int from, Town town, Bench into, int child) {
            int kiln = byteOrNone(tape[from + 1]);
            int place = byteOrNone(tape[from + 2]);
            int temper = byteOrNone(tape[from + 3]);
            int cracked = tape[from + 4] & 255;
            int stuck = tape[from + 5] & 255;
            boolean outside = kiln == NONE && place == NONE;
            boolean good;
            if (tape[from] == 0) {
                boolean seated = outside || isFree(town, into, kiln, place);
                good = seated && temper == NONE && cracked == 0 && stuck == 0;
            } else {
                boolean rings = temper != NONE && temper <= TEMPER_MOST;
                good = tape[from] == 1 && outside && rings && cracked <= 1;
            }
            into.kilnOf[child] = kiln;
            into.placeOf[child] = place;
            into.temper[child] = temper;
            into.cracked[child] = cracked;
            into.stuck[child] = stuck;
            return good;
        }

        /** Whether there is such a place, and none of those read so far is in it. */
        private static boolean isFree(Town town, Bench into, int kiln, int place) {
            boolean there = kiln >= 0 && kiln < town.kilns && place >= 0 && place < town.rooms[kiln];
            return there && into.whoIsIn(kiln, place) == NONE;
        }

        /** Raw ones and those that are not there are stuck to none, so none may name them. */
        private static boolean isStuckBothWays(Bench bench) {
            for (int one = 0; one < CHILDREN_MOST; one++) {
                if ((bench.stuck[one] >> one & 1) == 1) {
                    return false;
                }
                for (int other = 0; other < CHILDREN_MOST; other++) {
                    if ((bench.stuck[one] >> other & 1) != (bench.stuck[other] >> one & 1)) {
                        return false;
                    }
                }
            }
            return true;
        }
    }
}
