/** What is owed to winds. The promises by number, and what each word means, stand in the project's document. */
public final class OwedToWinds {
    public static final int NONE = -1;

    private static final int OTHERS = -2;
    private static final int CAN_NOT_BE = -1000;
    private static final int MOST_WINDS = 6;
    private static final int MOST_VILLAGES = 6;
    private static final int MOST_TEXTS = 4;
    private static final int MOST_BYTES = 300;
    private static final int MOST_CLAUSES = 24;
    private static final int MOST_STEPS = 30;
    private static final int MOST_PAGES = 30;
    private static final int MOST_TOOK = 8;
    private static final int MOST_SAILS = 5;
    private static final int MOST_KINDS = 5;
    private static final int MOST_WORTH = 999;
    private static final int MOST_DAYS = 60;
    private static final int LAST_DAY = 9999;
    private static final int MOST_OWED = 9999;
    private static final int LEAST_OWED = -999;
    private static final int MOST_PURSE = 9999;
    private static final int MOST_FORCE = 9;
    private static final int MOST_AT_ONCE = 99;

    private final World world = new World();
    private final World image = new World();
    private final Text[] texts = new Text[MOST_TEXTS];
    private final int[] tape = new int[MOST_BYTES];
    private int bytes = 0;
    private final Reader reader = new Reader(tape);
    private final Days days;
    private final Foresight foresight;
    private final Riddles riddles;
    private final Laws laws;
    private final Fraction fraction = new Fraction();
    private final Coins coins = new Coins();

    public OwedToWinds() {
        for (int i = 0; i < MOST_TEXTS; i++) {
            texts[i] = new Text();
        }
        laws = new Laws(world, texts);
        days = new Days(world, laws);
        foresight = new Foresight(world, days);
        riddles = new Riddles(world, laws);
    }

    public int wind(int quarter, int weight, int due) {
        return world.tellWind(quarter, weight, due);
    }

    public int village(int roof, int purse) {
        return world.tellVillage(roof, purse);
    }

    public boolean way(int one, int other, int length) {
        return world.tellWay(one, other, length);
    }

    public int feed(int a, int b, int c, int d, int e) {
        if (bytes + 20 > MOST_BYTES) {
            return NONE;
        }
        feedFour(a);
        feedFour(b);
        feedFour(c);
        feedFour(d);
        feedFour(e);
        return bytes;
    }

    private void feedFour(int four) {
        for (int shift = 24; shift >= 0; shift -= 8) {
            tape[bytes] = (four >> shift) & 255;
            bytes++;
        }
    }

    public int end(int n) {
        if (n < 0 || n > bytes) {
            return NONE;
        }
        bytes = n;
        return n;
    }

    public int text() {
        if (world.texts == MOST_TEXTS) {
            return NONE;
        }
        // A slot from world.texts on is free to write in: the image never has more texts than the world.
        boolean sound = reader.read(bytes, texts[world.texts]);
        bytes = 0;
        if (!sound) {
            return NONE;
        }
        world.texts++;
        return world.texts - 1;
    }

    public int fault(int what) {
        if (what == 0) {
            return reader.fault;
        }
        return what == 1 ? reader.place : NONE;
    }

    public boolean by(int text) {
        if (text != NONE && !world.isText(text)) {
            return false;
        }
        world.ruling = text;
        return true;
    }

    public int pay(int village, int wind, int pence) {
        return days.payByHand(village, wind, pence);
    }

    public int merge(int wind, int other) {
        return days.mergeByHand(wind, other);
    }

    public int day(int n) {
        if (n < 1 || n > MOST_DAYS || world.daysLeft() < n) {
            return NONE;
        }
        int taken = 0;
        for (int i = 0; i < n; i++) {
            world.keepStep();
            days.pass();
            taken += days.took;
        }
        return taken;
    }

    public int played(int text) {
        return world.isText(text) ? days.play(texts[text]) : OTHERS;
    }

    public int years(int seed, int n) {
        if (seed < 0 || seed > 9999 || n < 1 || n > 40) {
            return NONE;
        }
        days.passYears(seed, n);
        return world.row[World.DAY];
    }

    public int undo() {
        return world.takeBack() ? world.steps : NONE;
    }

    public int ofWind(int wind, int what) {
        if (!world.isWind(wind)) {
            return CAN_NOT_BE;
        }
        switch (what) {
            case 0: return world.quarter[wind];
            case 1: return world.row[World.WEIGHT + wind];
            case 2: return world.row[World.DUE + wind];
            case 3: return world.row[World.OWED + wind];
            case 4: return world.row[World.FORCE + wind];
            case 5: return world.row[World.GONE + wind];
            case 6: return laws.blowsOf(wind);
            case 7: return laws.comesOf(wind) ? 1 : 0;
            case 8: return laws.duesOf(wind);
            default: return CAN_NOT_BE;
        }
    }

    public int ofVillage(int village, int what) {
        if (!world.isVillage(village)) {
            return NONE;
        }
        switch (what) {
            case 0: return world.roof[village];
            case 1: return world.row[World.PURSE + village];
            case 2: return world.row[World.TAKEN + village];
            case 3: return laws.catchOf(NONE, village, 0);
            default: return NONE;
        }
    }

    public int takes(int wind, int village, int f) {
        boolean asked = world.isWind(wind) && world.isVillage(village) && isForce(f);
        return asked ? laws.takesOf(wind, village, f) : NONE;
    }

    public int catches(int wind, int village, int f) {
        boolean asked = world.isWind(wind) && world.isVillage(village) && isForce(f);
        return asked ? laws.catchOf(wind, village, f) : NONE;
    }

    private static boolean isForce(int force) {
        return force >= 1 && force <= MOST_FORCE;
    }

    private static boolean isFar(int n) {
        return n >= 1 && n <= MOST_DAYS;
    }

    public int is(int what) {
        if (what == 0) {
            return world.row[World.DAY];
        }
        return what == 1 ? world.row[World.X] : OTHERS;
    }

    public int book(int i, int what) {
        if (i == NONE) {
            return world.pages();
        }
        if (i < 0 || i >= world.pages() || what < 0 || what > 3) {
            return OTHERS;
        }
        return world.page(i, what);
    }

    public int foretold(int n) {
        return isFar(n) ? foresight.taken(n) : NONE;
    }

    public int purse(int n, int village) {
        return isFar(n) && world.isVillage(village) ? foresight.later(n, World.PURSE + village) : NONE;
    }

    public int owed(int n, int wind) {
        return isFar(n) && world.isWind(wind) ? foresight.later(n, World.OWED + wind) : CAN_NOT_BE;
    }

    public int arrears() {
        return foresight.daysToArrears();
    }

    public int broke(int village) {
        return world.isVillage(village) ? foresight.daysToBroke(village) : NONE;
    }

    public int whose(int n) {
        return isFar(n) ? foresight.mildestText(n) : NONE;
    }

    public long odds(int wind, int n, boolean low) {
        if (!world.isWind(wind) || n < 0 || n > 9) {
            return NONE;
        }
        fraction.setOdds(world, wind, n);
        return low ? fraction.lower : fraction.upper;
    }

    public int least(int n, int h, boolean set) {
        if (!isFar(n) || h < 0 || h > 9999) {
            return NONE;
        }
        foresight.findLeast(n, h);
        return set ? foresight.leastSet : foresight.leastPence;
    }

    public int share(int wind, int f, int villages, int village, boolean low) {
        if (!world.isWind(wind) || !isForce(f) || !world.isVillage(village)) {
            return NONE;
        }
        boolean told = villages > 0 && villages < 1 << world.villages;
        if (!told || Integer.bitCount(villages) > 5 || (villages >> village & 1) == 0) {
            return NONE;
        }
        riddles.findTakes(wind, f);
        fraction.setShare(riddles.takes, villages, village);
        return (int) (low ? fraction.lower : fraction.upper);
    }

    public int voyage(int from, int to, boolean ahead) {
        if (!world.isVillage(from) || !world.isVillage(to)) {
            return OTHERS;
        }
        if (from == to) {
            return ahead ? NONE : 0;
        }
        foresight.setOut(from);
        if (!foresight.isReached(to)) {
            return OTHERS;
        }
        return ahead ? foresight.lastAhead(to) : foresight.reached[to];
    }

    public int took(int village, int what) {
        if (village == NONE) {
            world.tooks = 0;
            return 0;
        }
        if (!world.isVillage(village) || what < 0 || what > MOST_AT_ONCE || world.tooks == MOST_TOOK) {
            return OTHERS;
        }
        world.tookFrom[world.tooks] = village;
        world.tookWhat[world.tooks] = what;
        world.tooks++;
        return world.tooks;
    }

    public int whoseWind() {
        return riddles.fittingWinds();
    }

    public int strengths(int wind) {
        return world.isWind(wind) ? riddles.fittingForces(wind) : NONE;
    }

    public int vane() {
        return riddles.nextVane();
    }

    public int sail(int force) {
        if (force == NONE) {
            world.sails = 0;
            return 0;
        }
        if (force < 0 || force > MOST_FORCE || world.sails == MOST_SAILS) {
            return OTHERS;
        }
        world.sail[world.sails] = force;
        world.sails++;
        return world.sails;
    }

    public int sails(int wind, int o) {
        if (!world.isWind(wind) || o < 0 || o > 999 || world.sails == 0) {
            return NONE;
        }
        riddles.findSails(wind, o);
        return riddles.countRows();
    }

    public int sure(int wind, int o, int i) {
        if (!world.isWind(wind) || o < 0 || o > 999 || i < 0 || i >= world.sails - 1) {
            return NONE;
        }
        riddles.findSails(wind, o);
        return riddles.surePayment(i);
    }

    public int kind(int worth) {
        if (worth == NONE) {
            world.kinds = 0;
            return 0;
        }
        if (worth < 1 || worth > 99 || world.kinds == MOST_KINDS) {
            return OTHERS;
        }
        world.kind[world.kinds] = worth;
        world.kinds++;
        return world.kinds;
    }

    public int inKind(int n, int kind) {
        if (n < 0 || n > MOST_WORTH || kind < NONE || kind >= world.kinds) {
            return NONE;
        }
        coins.count(world.kind, world.kinds, n);
        return kind == NONE ? coins.fewest[n] : coins.piecesOf(world.kind, kind, n);
    }

    public int calms(int n, boolean row) {
        if (!isFar(n)) {
            return NONE;
        }
        foresight.countCalms(n);
        return row ? foresight.longestCalm : foresight.calmDays;
    }

    public int strongest() {
        int best = NONE;
        int most = NONE;
        for (int wind = 0; wind < world.winds; wind++) {
            int force = world.isHere(wind) && laws.comesOf(wind) ? laws.blowsOf(wind) : 0;
            if (world.isHere(wind) && force > most) {
                best = wind;
                most = force;
            }
        }
        return best;
    }

    public int richest() {
        int best = NONE;
        int most = NONE;
        for (int village = 0; village < world.villages; village++) {
            if (world.row[World.PURSE + village] > most) {
                best = village;
                most = world.row[World.PURSE + village];
            }
        }
        return best;
    }

    public int often(int wind) {
        if (wind != NONE && !world.isWind(wind)) {
            return OTHERS;
        }
        int times = 0;
        for (int i = 0; i < world.pages(); i++) {
            if (world.page(i, 1) == wind) {
                times++;
            }
        }
        return times;
    }

    public int worstDay() {
        int worst = NONE;
        int most = NONE;
        for (int i = 0; i < world.pages(); i++) {
            if (world.page(i, 3) > most) {
                worst = world.page(i, 0);
                most = world.page(i, 3);
            }
        }
        return worst;
    }

    public int image() {
        image.copyFrom(world);
        return world.row[World.DAY];
    }

    public int back() {
        world.copyFrom(image);
        return world.row[World.DAY];
    }

    public int about(int what) {
        switch (what) {
            case 0: return world.winds;
            case 1: return world.villages;
            case 2: return world.texts;
            case 3: return world.ruling;
            case 4: return world.steps;
            case 5: return world.tooks;
            case 6: return world.sails;
            case 7: return world.kinds;
            case 8: return bytes;
            default: return OTHERS;
        }
    }

    /**
     * All that an image keeps. What a step can change stands in one row of numbers,
     * so that a step, a look ahead and an image each are a copy of rows.
     */
    private static final class World {
        static final int OWED = 0;
        static final int FORCE = OWED + MOST_WINDS;
        static final int WEIGHT = FORCE + MOST_WINDS;
        static final int DUE = WEIGHT + MOST_WINDS;
        static final int GONE = DUE + MOST_WINDS;
        static final int PURSE = GONE + MOST_WINDS;
        static final int TAKEN = PURSE + MOST_VILLAGES;
        static final int DAY = TAKEN + MOST_VILLAGES;
        static final int X = DAY + 1;
        static final int WRITTEN = X + 1;
        static final int BOOK = WRITTEN + 1;
        static final int ROW = BOOK + MOST_PAGES;

        final int[] row = new int[ROW];
        private final int[][] kept = new int[MOST_STEPS][ROW];
        private int nextKept = 0;
        int steps = 0;
        int winds = 0;
        final int[] quarter = new int[MOST_WINDS];
        int villages = 0;
        final int[] roof = new int[MOST_VILLAGES];
        private final int[] ways = new int[MOST_VILLAGES * MOST_VILLAGES];
        int texts = 0;
        int ruling = NONE;
        int tooks = 0;
        final int[] tookFrom = new int[MOST_TOOK];
        final int[] tookWhat = new int[MOST_TOOK];
        int sails = 0;
        final int[] sail = new int[MOST_SAILS];
        int kinds = 0;
        final int[] kind = new int[MOST_KINDS];

        World() {
            row[X] = 127;
        }

        void copyFrom(World other) {
            copyRow(other.row, row);
            for (int i = 0; i < MOST_STEPS; i++) {
                copyRow(other.kept[i], kept[i]);
            }
            nextKept = other.nextKept;
            steps = other.steps;
            winds = other.winds;
            copyRow(other.quarter, quarter);
            villages = other.villages;
            copyRow(other.roof, roof);
            copyRow(other.ways, ways);
            texts = other.texts;
            ruling = other.ruling;
            tooks = other.tooks;
            copyRow(other.tookFrom, tookFrom);
            copyRow(other.tookWhat, tookWhat);
            sails = other.sails;
            copyRow(other.sail, sail);
            kinds = other.kinds;
            copyRow(other.kind, kind);
        }

        private static void copyRow(int[] from, int[] to) {
            System.arraycopy(from, 0, to, 0, Math.min(from.length, to.length));
        }

        boolean isWind(int wind) {
            return wind >= 0 && wind < winds;
        }

        boolean isHere(int wind) {
            return wind >= 0 && wind < winds && row[GONE + wind] == 0;
        }

        /** How much it counts in a draw. */
        int weightOf(int wind) {
            return isHere(wind) ? row[WEIGHT + wind] : 0;
        }

        int weightOfAll() {
            int all = 0;
            for (int wind = 0; wind < winds; wind++) {
                all += weightOf(wind);
            }
            return all;
        }

        boolean isVillage(int village) {
            return village >= 0 && village < villages;
        }

        boolean isText(int text) {
            return text >= 0 && text < texts;
        }

        int daysLeft() {
            return LAST_DAY - row[DAY];
        }

        int tellWind(int q, int weight, int due) {
            if (winds == MOST_WINDS || q < 0 || q > 3 || weight < 1 || weight > 9 || due < 0 || due > 99) {
                return NONE;
            }
            quarter[winds] = q;
            setWind(row, winds, weight, due);
            // The kept rows have it as told too, so that taking a step back leaves it so.
            for (int i = 0; i < MOST_STEPS; i++) {
                setWind(kept[i], winds, weight, due);
            }
            winds++;
            return winds - 1;
        }

        private static void setWind(int[] into, int wind, int weight, int due) {
            into[OWED + wind] = 0;
            into[FORCE + wind] = 0;
            into[WEIGHT + wind] = weight;
            into[DUE + wind] = due;
            into[GONE + wind] = 0;
        }

        int tellVillage(int r, int pence) {
            if (villages == MOST_VILLAGES || r < 0 || r > 9 || pence < 0 || pence > MOST_PURSE) {
                return NONE;
            }
            roof[villages] = r;
            setVillage(row, villages, pence);
            for (int i = 0; i < MOST_STEPS; i++) {
                setVillage(kept[i], villages, pence);
            }
            villages++;
            return villages - 1;
        }

        private static void setVillage(int[] into, int village, int pence) {
            into[PURSE + village] = pence;
            into[TAKEN + village] = 0;
        }

        boolean tellWay(int one, int other, int length) {
            if (!isVillage(one) || !isVillage(other) || one == other || length < 0 || length > 99) {
                return false;
            }
            ways[one * MOST_VILLAGES + other] = length;
            ways[other * MOST_VILLAGES + one] = length;
            return true;
        }

        int lengthOf(int one, int other) {
            return isVillage(one) && isVillage(other) ? ways[one * MOST_VILLAGES + other] : 0;
        }

        void keepStep() {
            copyRow(row, kept[nextKept]);
            nextKept = (nextKept + 1) % MOST_STEPS;
            steps = Math.min(MOST_STEPS, steps + 1);
        }

        boolean takeBack() {
            if (steps == 0) {
                return false;
            }
            nextKept = (nextKept + MOST_STEPS - 1) % MOST_STEPS;
            copyRow(kept[nextKept], row);
            steps--;
            return true;
        }

        int pages() {
            return Math.min(MOST_PAGES, row[WRITTEN]);
        }

        /** A page is one number, since every kept row holds the whole book. */
        void writePage(int wind, int force, int took) {
            int page = ((took * 10 + force) * 10 + wind + 1) * 10000 + row[DAY];
            row[BOOK + row[WRITTEN] % MOST_PAGES] = page;
            row[WRITTEN]++;
        }

        int page(int i, int what) {
            int page = row[BOOK + (row[WRITTEN] - pages() + i) % MOST_PAGES];
            switch (what) {
                case 0: return page % 10000;
                case 1: return page / 10000 % 10 - 1;
                case 2: return page / 100000 % 10;
                default: return page / 1000000;
            }
        }
    }

    /** A text as read: its laws as code in the order of reckoning, and its clauses. */
    private static final class Text {
        static final int COMES = 0;
        static final int BLOWS = 1;
        static final int TAKES = 2;
        static final int CATCH = 3;
        static final int DUES = 4;
        static final int LAWS = 5;
        static final int WIND = 5;
        static final int VILLAGE = 6;
        static final int WAY = 7;
        static final int PAY = 8;
        static final int MERGE = 9;
        static final int DAYS = 10;
        static final int CLAUSE = 4;

        final int[] code = new int[MOST_BYTES];
        private int size = 0;
        final int[] from = new int[LAWS];
        final int[] to = new int[LAWS];
        final int[] clauses = new int[MOST_CLAUSES * CLAUSE];
        int count = 0;

        void clear() {
            size = 0;
            count = 0;
            for (int law = 0; law < LAWS; law++) {
                from[law] = NONE;
                to[law] = NONE;
            }
        }

        boolean hasLaw(int law) {
            return law >= 0 && law < LAWS && from[law] != NONE;
        }

        void beginLaw(int law) {
            from[law] = size;
            to[law] = size;
        }

        void endLaw(int law) {
            to[law] = size;
        }

        void put(int what) {
            if (size < code.length) {
                code[size] = what;
                size++;
            }
        }

        void addClause(int clause, int a, int b, int c) {
            if (count < MOST_CLAUSES) {
                int at = count * CLAUSE;
                clauses[at] = clause;
                clauses[at + 1] = a;
                clauses[at + 2] = b;
                clauses[at + 3] = c;
                count++;
            }
        }
    }

    /** What a token can be; which clause it begins, what it puts into code, how tightly it binds. */
    private enum Word {
        COMES("comes", Text.COMES, NONE, 0),
        BLOWS("blows", Text.BLOWS, NONE, 0),
        TAKES("takes", Text.TAKES, NONE, 0),
        CATCH("catch", Text.CATCH, NONE, 0),
        DUES("dues", Text.DUES, NONE, 0),
        WIND("wind", Text.WIND, NONE, 0),
        VILLAGE("village", Text.VILLAGE, NONE, 0),
        WAY("way", Text.WAY, NONE, 0),
        PAY("pay", Text.PAY, NONE, 0),
        MERGE("merge", Text.MERGE, NONE, 0),
        DAY("day", Text.DAYS, Laws.DAY, 0),
        QUARTER("quarter", NONE, Laws.QUARTER, 0),
        OWED("owed", NONE, Laws.OWED, 0),
        DUE("due", NONE, Laws.DUE, 0),
        WEIGHT("weight", NONE, Laws.WEIGHT, 0),
        FORCE("force", NONE, Laws.FORCE, 0),
        ROOF("roof", NONE, Laws.ROOF, 0),
        PURSE("purse", NONE, Laws.PURSE, 0),
        OF("of", NONE, NONE, 0),
        TO("to", NONE, Laws.ROUND, 0),
        OR("or", NONE, Laws.OR, 1),
        AND("and", NONE, Laws.AND, 2),
        NOT("not", NONE, Laws.NOT, 3),
        LESS("<", NONE, Laws.LESS, 4),
        AT_MOST("<=", NONE, Laws.AT_MOST, 4),
        MORE(">", NONE, Laws.MORE, 4),
        AT_LEAST(">=", NONE, Laws.AT_LEAST, 4),
        EQUAL("=", NONE, Laws.EQUAL, 4),
        UNLIKE("#", NONE, Laws.UNLIKE, 4),
        PLUS("+", NONE, Laws.PLUS, 5),
        MINUS("-", NONE, Laws.MINUS, 5),
        TIMES("*", NONE, Laws.TIMES, 6),
        BY("/", NONE, Laws.BY, 6),
        DEBT("debt", NONE, Laws.DEBT, 0),
        ROUND("round", NONE, NONE, 0),
        NEGATIVE("", NONE, Laws.NEGATIVE, 0),
        LEFT("(", NONE, NONE, 0),
        RIGHT(")", NONE, NONE, 0),
        SEMICOLON(";", NONE, NONE, 0),
        NUMBER("", NONE, NONE, 0),
        END("", NONE, NONE, 0),
        STRANGE("", NONE, NONE, 0);

        private static final Word[] ALL = values();

        final String spelling;
        final int clause;
        final int code;
        final int level;

        Word(String spelling, int clause, int code, int level) {
            this.spelling = spelling;
            this.clause = clause;
            this.code = code;
            this.level = level;
        }

        boolean isName() {
            return code >= Laws.FIRST_NAME && code <= Laws.LAST_NAME;
        }

        boolean isNameOf(int law) {
            return law == Text.TAKES || law == Text.CATCH || code < Laws.ROOF;
        }

        boolean compares() {
            return level == 4;
        }
    }

    /** Reads a tape into a text, token by token; the first token that is wrong ends it. */
    private static final class Reader {
        private static final int MOST_OPEN = 8;

        private final int[] tape;
        private int length = 0;
        private int begin = 0;
        private int end = 0;
        private Word word = Word.END;
        private int number = 0;
        private Text text = null;
        private int law = NONE;
        private boolean wanting = true;
        private boolean whole = false;
        private final Word[] open = new Word[64];
        private int opens = 0;
        private int depth = 0;
        int fault = NONE;
        int place = NONE;

        Reader(int[] tape) {
            this.tape = tape;
        }

        boolean read(int bytes, Text into) {
            length = Math.min(bytes, tape.length);
            text = into;
            text.clear();
            fault = 0;
            place = NONE;
            end = 0;
            advance();
            for (int i = 0; i <= MOST_BYTES && fault == 0 && word != Word.END; i++) {
                int clause = word.clause;
                blameClause(clause);
                if (fault == 0 && clause < Text.LAWS) {
                    readLaw(clause);
                } else if (fault == 0) {
                    readDeed(clause);
                }
            }
            return fault == 0;
        }

        private void blame(int what) {
            if (fault == 0) {
                fault = what;
                place = begin;
            }
        }

        private void blameClause(int clause) {
            if (clause == NONE) {
                blame(1);
            } else if (text.hasLaw(clause)) {
                blame(4);
            } else if (text.count == MOST_CLAUSES) {
                blame(6);
            }
        }

        private void readDeed(int clause) {
            int a = 0;
            int b = 0;
            int c = 0;
            advance();
            if (clause == Text.WIND) {
                a = expectNumber(0, 3);
                expect(Word.WEIGHT);
                b = expectNumber(1, 9);
                expect(Word.DUE);
                c = expectNumber(0, 99);
            } else if (clause == Text.VILLAGE) {
                a = expectNumber(0, 9);
                expect(Word.PURSE);
                b = expectNumber(0, MOST_PURSE);
            } else if (clause == Text.DAYS) {
                a = expectNumber(1, MOST_DAYS);
            } else {
                a = expectNumber(0, 5);
                expect(Word.TO);
                b = expectNumber(0, 5);
            }
            if (clause == Text.WAY) {
                expect(Word.OF);
                c = expectNumber(0, 99);
            } else if (clause == Text.PAY) {
                expect(Word.OF);
                c = expectNumber(1, 999);
            }
            expect(Word.SEMICOLON);
            text.addClause(clause, a, b, c);
        }

        private void expect(Word due) {
            if (fault == 0 && word == due) {
                advance();
            } else {
                blame(1);
            }
        }

        private int expectNumber(int least, int most) {
            if (word != Word.NUMBER) {
                blame(1);
            } else if (number < least || number > most) {
                blame(2);
            }
            int value = number;
            if (fault == 0) {
                advance();
            }
            return value;
        }

        private void readLaw(int clause) {
            law = clause;
            opens = 0;
            depth = 0;
            wanting = true;
            whole = false;
            text.beginLaw(law);
            advance();
            for (int i = 0; i <= MOST_BYTES && fault == 0 && !whole; i++) {
                if (wanting) {
                    readOne();
                } else {
                    readBehindOne();
                }
                if (fault == 0) {
                    advance();
                }
            }
            text.endLaw(law);
            text.addClause(law, 0, 0, 0);
        }

        private Word top() {
            return opens > 0 ? open[opens - 1] : Word.END;
        }

        private void push(Word pending) {
            if (opens < open.length) {
                open[opens] = pending;
                opens++;
            }
            wanting = true;
        }

        /** An ask may begin, or go on behind its first sum, where no bracket or comparison is pending. */
        private boolean isAtAsk() {
            Word top = top();
            return law == Text.COMES && (opens == 0 || top == Word.NOT || top == Word.AND || top == Word.OR);
        }

        private void readOne() {
            if (word == Word.NUMBER) {
                if (number > 9999) {
                    blame(2);
                }
                text.put(number);
                closeOne();
            } else if (word.isName()) {
                if (!word.isNameOf(law)) {
                    blame(5);
                }
                text.put(word.code);
                closeOne();
            } else if (word == Word.LEFT || word == Word.DEBT || word == Word.ROUND) {
                openOne(word);
            } else if (word == Word.MINUS) {
                openOne(Word.NEGATIVE);
            } else if (word == Word.NOT && isAtAsk()) {
                openOne(word);
            } else {
                blame(1);
            }
        }

        private void openOne(Word opening) {
            if (depth == MOST_OPEN) {
                blame(3);
            }
            depth++;
            push(opening);
        }

        /** With a ONE whole, those that bear on one ONE alone are whole too. */
        private void closeOne() {
            wanting = false;
            while (opens > 0 && (top() == Word.NEGATIVE || top() == Word.DEBT || top() == Word.TO)) {
                text.put(top().code);
                opens--;
                depth--;
            }
        }

        private void readBehindOne() {
            if (top() == Word.ROUND) {
                if (word == Word.TO) {
                    opens--;
                    push(Word.TO);
                } else {
                    blame(1);
                }
            } else if (word.level >= 5) {
                putDownTo(word.level);
                push(word);
            } else {
                putDownTo(5);
                readBehindSum();
            }
        }

        private void readBehindSum() {
            if (word == Word.RIGHT && top() == Word.LEFT) {
                opens--;
                depth--;
                closeOne();
            } else if (word.compares() && isAtAsk()) {
                push(word);
            } else if ((word == Word.AND || word == Word.OR) && top().compares()) {
                putDownTo(word.level);
                push(word);
            } else if (word == Word.SEMICOLON && (law == Text.COMES ? top().compares() : opens == 0)) {
                putDownTo(1);
                whole = true;
            } else {
                blame(1);
            }
        }

        private void putDownTo(int level) {
            while (opens > 0 && top().level >= level) {
                if (top() == Word.NOT) {
                    depth--;
                }
                text.put(top().code);
                opens--;
            }
        }

        private void advance() {
            begin = end;
            while (begin < length && (tape[begin] == 32 || tape[begin] == 10)) {
                begin++;
            }
            end = begin;
            if (begin >= length) {
                word = Word.END;
            } else if (isLetter(tape[begin])) {
                while (end < length && isLetter(tape[end])) {
                    end++;
                }
                word = spelled();
            } else if (isDigit(tape[begin])) {
                readNumber();
            } else {
                boolean angle = tape[begin] == '<' || tape[begin] == '>';
                end += angle && begin + 1 < length && tape[begin + 1] == '=' ? 2 : 1;
                word = spelled();
            }
        }

        private void readNumber() {
            word = Word.NUMBER;
            number = 0;
            while (end < length && isDigit(tape[end])) {
                number = Math.min(10000, number * 10 + tape[end] - '0');
                end++;
            }
        }

        private static boolean isLetter(int sign) {
            return sign >= 'a' && sign <= 'z' || sign >= 'A' && sign <= 'Z';
        }

        private static boolean isDigit(int sign) {
            return sign >= '0' && sign <= '9';
        }

        private Word spelled() {
            for (int i = 0; i < Word.ALL.length; i++) {
                if (isSpelled(Word.ALL[i].spelling)) {
                    return Word.ALL[i];
                }
            }
            return Word.STRANGE;
        }

        private boolean isSpelled(String spelling) {
            if (spelling.length() != end - begin) {
                return false;
            }
            for (int i = 0; i < spelling.length(); i++) {
                if (spelling.charAt(i) != tape[begin + i]) {
                    return false;
                }
            }
            return true;
        }
    }

    /** What the ruling text says of winds and villages; in code, what is below 10000 is a number itself. */
    private static final class Laws {
        static final int FIRST_NAME = 10000;
        static final int DAY = 10000;
        static final int QUARTER = 10001;
        static final int OWED = 10002;
        static final int DUE = 10003;
        static final int WEIGHT = 10004;
        static final int FORCE = 10005;
        static final int ROOF = 10006;
        static final int PURSE = 10007;
        static final int LAST_NAME = 10007;
        static final int NOT = 10008;
        static final int NEGATIVE = 10009;
        static final int DEBT = 10010;
        static final int LAST_OF_ONE = 10010;
        static final int OR = 10011;
        static final int AND = 10012;
        static final int LESS = 10013;
        static final int AT_MOST = 10014;
        static final int MORE = 10015;
        static final int AT_LEAST = 10016;
        static final int EQUAL = 10017;
        static final int UNLIKE = 10018;
        static final int PLUS = 10019;
        static final int MINUS = 10020;
        static final int TIMES = 10021;
        static final int BY = 10022;
        static final int ROUND = 10023;
        private static final int MOST = 1000000;

        private final World world;
        private final Text[] texts;
        private final int[] stack = new int[64];

        Laws(World world, Text[] texts) {
            this.world = world;
            this.texts = texts;
        }

        boolean comesOf(int wind) {
            Text text = rulingOn(Text.COMES);
            return text == null || reckoned(text, Text.COMES, wind, NONE, world.row[World.FORCE + wind]) != 0;
        }

        int blowsOf(int wind) {
            Text text = rulingOn(Text.BLOWS);
            int force = text == null
                    ? world.row[World.OWED + wind] / 10
                    : reckoned(text, Text.BLOWS, wind, NONE, world.row[World.FORCE + wind]);
            return within(force, MOST_FORCE);
        }

        int duesOf(int wind) {
            Text text = rulingOn(Text.DUES);
            int dues = text == null
                    ? world.row[World.DUE + wind]
                    : reckoned(text, Text.DUES, wind, NONE, world.row[World.FORCE + wind]);
            return within(dues, MOST_AT_ONCE);
        }

        int takesOf(int wind, int village, int force) {
            Text text = rulingOn(Text.TAKES);
            int taken = text == null
                    ? force - world.roof[village]
                    : reckoned(text, Text.TAKES, wind, village, force);
            return within(taken, MOST_AT_ONCE);
        }

        /** In calm the wind is NONE and the force 0. */
        int catchOf(int wind, int village, int force) {
            Text text = rulingOn(Text.CATCH);
            int without = wind == NONE ? 0 : 3;
            return within(text == null ? without : reckoned(text, Text.CATCH, wind, village, force), MOST_AT_ONCE);
        }

        private Text rulingOn(int law) {
            if (!world.isText(world.ruling) || world.ruling >= texts.length) {
                return null;
            }
            Text text = texts[world.ruling];
            return text.hasLaw(law) ? text : null;
        }

        private static int within(int value, int most) {
            return Math.max(0, Math.min(most, value));
        }

        private int reckoned(Text text, int law, int wind, int village, int force) {
            int top = 0;
            for (int i = text.from[law]; i < text.to[law]; i++) {
                int code = text.code[i];
                if (code <= LAST_NAME) {
                    if (top == stack.length) {
                        return 0;
                    }
                    stack[top] = code < FIRST_NAME ? code : named(code, wind, village, force);
                    top++;
                } else if (code <= LAST_OF_ONE) {
                    if (top < 1) {
                        return 0;
                    }
                    stack[top - 1] = ofOne(code, stack[top - 1]);
                } else {
                    if (top < 2) {
                        return 0;
                    }
                    top--;
                    long value = code == ROUND
                            ? nearest(stack[top - 1], Math.abs(stack[top]))
                            : ofTwo(code, stack[top - 1], stack[top]);
                    stack[top - 1] = (int) Math.max(-MOST, Math.min(MOST, value));
                }
            }
            return top == 0 ? 0 : stack[0];
        }

        private int named(int code, int wind, int village, int force) {
            boolean calm = wind == NONE;
            switch (code) {
                case DAY: return world.row[World.DAY];
                case QUARTER: return calm ? 0 : world.quarter[wind];
                case OWED: return calm ? 0 : world.row[World.OWED + wind];
                case DUE: return calm ? 0 : world.row[World.DUE + wind];
                case WEIGHT: return calm ? 0 : world.row[World.WEIGHT + wind];
                case FORCE: return force;
                case ROOF: return village == NONE ? 0 : world.roof[village];
                case PURSE: return village == NONE ? 0 : world.row[World.PURSE + village];
                default: return 0;
            }
        }

        private int ofOne(int code, int a) {
            switch (code) {
                case NOT: return a == 0 ? 1 : 0;
                case NEGATIVE: return -a;
                case DEBT: return world.isWind(a) ? world.row[World.OWED + a] : 0;
                default: return 0;
            }
        }

        private static long ofTwo(int code, int a, int b) {
            switch (code) {
                case OR: return a | b;
                case AND: return a & b;
                case LESS: return a < b ? 1 : 0;
                case AT_MOST: return a <= b ? 1 : 0;
                case MORE: return a > b ? 1 : 0;
                case AT_LEAST: return a >= b ? 1 : 0;
                case EQUAL: return a == b ? 1 : 0;
                case UNLIKE: return a != b ? 1 : 0;
                case PLUS: return a + b;
                case MINUS: return a - b;
                case TIMES: return (long) a * b;
                case BY: return b == 0 ? 0 : a / b;
                default: return 0;
            }
        }

        private static int nearest(int a, int size) {
            if (size == 0) {
                return a;
            }
            int below = Math.floorDiv(a, size) * size;
            return a - below < below + size - a ? below : below + size;
        }
    }

    /** All that changes the world in steps: days, payments, merging, scripts, years. */
    private static final class Days {
        private final World world;
        private final Laws laws;
        private int wind = NONE;
        int force = 0;
        int took = 0;

        Days(World world, Laws laws) {
            this.world = world;
            this.laws = laws;
        }

        /** Of the day that passed last. */
        boolean wasCalm() {
            return wind == NONE;
        }

        /** How far a ship goes on a way, on the day that passed last. */
        int speed() {
            boolean half = wind != NONE && world.quarter[wind] < 2;
            return half ? Math.max(1, (1 + force) / 2) : 1 + force;
        }

        /** One day, which must be one that can pass; the step is kept by who calls. */
        void pass() {
            int[] row = world.row;
            for (int i = 0; i < world.winds && row[World.DAY] % 7 == 0; i++) {
                if (world.isHere(i)) {
                    row[World.OWED + i] = Math.min(MOST_OWED, row[World.OWED + i] + laws.duesOf(i));
                }
            }
            wind = drawnWind();
            force = 0;
            if (wind != NONE) {
                force = laws.comesOf(wind) ? laws.blowsOf(wind) : 0;
                row[World.FORCE + wind] = force;
                wind = force > 0 ? wind : NONE;
            }
            took = 0;
            for (int village = 0; village < world.villages; village++) {
                int purse = World.PURSE + village;
                if (wind != NONE) {
                    int taken = laws.takesOf(wind, village, force);
                    row[purse] = Math.max(0, row[purse] - taken);
                    row[World.TAKEN + village] += taken;
                    took += taken;
                }
                row[purse] = Math.min(MOST_PURSE, row[purse] + laws.catchOf(wind, village, force));
            }
            world.writePage(wind, force, took);
            row[World.DAY]++;
        }

        private int drawnWind() {
            int all = world.weightOfAll();
            if (all == 0) {
                return NONE;
            }
            int draw = drawX() % all;
            int soFar = 0;
            for (int i = 0; i < world.winds; i++) {
                soFar += world.weightOf(i);
                if (soFar > draw) {
                    return i;
                }
            }
            return NONE;
        }

        private int drawX() {
            int x = world.row[World.X];
            world.row[World.X] = (x * 353 + 233) % 30427;
            return x;
        }

        int payByHand(int village, int to, int pence) {
            if (!canPay(village, to, pence)) {
                return CAN_NOT_BE;
            }
            world.keepStep();
            payNow(village, to, pence);
            return world.row[World.OWED + to];
        }

        private boolean canPay(int village, int to, int pence) {
            return world.isVillage(village) && world.isHere(to) && pence >= 1 && pence <= 999
                    && pence <= world.row[World.PURSE + village]
                    && world.row[World.OWED + to] - pence >= LEAST_OWED;
        }

        private void payNow(int village, int to, int pence) {
            world.row[World.PURSE + village] -= pence;
            world.row[World.OWED + to] -= pence;
        }

        int mergeByHand(int one, int into) {
            if (!canMerge(one, into)) {
                return CAN_NOT_BE;
            }
            world.keepStep();
            mergeNow(one, into);
            return world.row[World.OWED + into];
        }

        private boolean canMerge(int one, int into) {
            return one != into && world.isHere(one) && world.isHere(into);
        }

        private void mergeNow(int one, int into) {
            int[] row = world.row;
            int owed = row[World.OWED + into] + row[World.OWED + one];
            row[World.OWED + into] = Math.max(LEAST_OWED, Math.min(MOST_OWED, owed));
            row[World.WEIGHT + into] = Math.min(99, row[World.WEIGHT + into] + row[World.WEIGHT + one]);
            row[World.DUE + into] = Math.min(999, row[World.DUE + into] + row[World.DUE + one]);
            row[World.FORCE + into] = Math.max(row[World.FORCE + into], row[World.FORCE + one]);
            row[World.GONE + one] = 1;
        }

        void passYears(int seed, int n) {
            world.keepStep();
            world.row[World.X] = seed * 2 + 127;
            for (int i = 0; i < n; i++) {
                int x = drawX();
                if (x % 5 < 2) {
                    payByChance(x);
                } else if (x % 5 == 2) {
                    mergeByChance(x);
                } else if (world.daysLeft() > 0) {
                    pass();
                }
            }
        }

        private void payByChance(int x) {
            if (world.villages > 0 && world.winds > 0) {
                int village = x % world.villages;
                int to = x / 5 % world.winds;
                if (canPay(village, to, 1 + x % 20)) {
                    payNow(village, to, 1 + x % 20);
                }
            }
        }

        private void mergeByChance(int x) {
            if (x % 7 == 0 && world.winds > 0) {
                int one = x % world.winds;
                int into = x / 3 % world.winds;
                if (canMerge(one, into)) {
                    mergeNow(one, into);
                }
            }
        }

        /** The number of the first clause that can't be, or NONE. */
        int play(Text text) {
            for (int i = 0; i < text.count; i++) {
                int at = i * Text.CLAUSE;
                int clause = text.clauses[at];
                if (!perform(clause, text.clauses[at + 1], text.clauses[at + 2], text.clauses[at + 3])) {
                    return i;
                }
            }
            return NONE;
        }

        private boolean perform(int clause, int a, int b, int c) {
            switch (clause) {
                case Text.WIND: return world.tellWind(a, b, c) != NONE;
                case Text.VILLAGE: return world.tellVillage(a, b) != NONE;
                case Text.WAY: return world.tellWay(a, b, c);
                case Text.PAY: return payByHand(a, b, c) != CAN_NOT_BE;
                case Text.MERGE: return mergeByHand(a, b) != CAN_NOT_BE;
                case Text.DAYS:
                    for (int i = 0; i < a; i++) {
                        if (world.daysLeft() <= 0) {
                            return false;
                        }
                        world.keepStep();
                        pass();
                    }
                    return true;
                default: return true;
            }
        }
    }

    /** Looks ahead by letting days pass in the world itself and giving its row back. */
    private static final class Foresight {
        private static final int NEVER = MOST_DAYS + 1;
        /** More than can be taken in all days ahead. */
        private static final int ANY = 1000000;

        private final World world;
        private final Days days;
        private final int[] asNow = new int[World.ROW];
        int leastPence = NONE;
        int leastSet = NONE;
        int calmDays = 0;
        int longestCalm = 0;
        private final int[] speeds = new int[MOST_DAYS];
        private int passed = 0;
        final int[] reached = new int[MOST_VILLAGES];

        Foresight(World world, Days days) {
            this.world = world;
            this.days = days;
        }

        private void keepNow() {
            World.copyRow(world.row, asNow);
        }

        private void giveBack() {
            World.copyRow(asNow, world.row);
        }

        private int canPass(int n) {
            return Math.min(n, world.daysLeft());
        }

        /** What is taken in n days; once it is above h the rest isn't looked at. */
        private int takenUpTo(int n, int h) {
            int taken = 0;
            int can = canPass(n);
            for (int i = 0; i < can && taken <= h; i++) {
                days.pass();
                taken += days.took;
            }
            return taken;
        }

        int taken(int n) {
            keepNow();
            int taken = takenUpTo(n, ANY);
            giveBack();
            return taken;
        }

        int later(int n, int place) {
            keepNow();
            takenUpTo(n, ANY);
            int value = world.row[place];
            giveBack();
            return value;
        }

        int daysToArrears() {
            int found = NONE;
            int can = canPass(MOST_DAYS);
            keepNow();
            for (int i = 1; i <= can && found == NONE; i++) {
                days.pass();
                if (days.wasCalm() && isAnyOwed()) {
                    found = i;
                }
            }
            giveBack();
            return found;
        }

        private boolean isAnyOwed() {
            for (int wind = 0; wind < world.winds; wind++) {
                if (isOwed(wind)) {
                    return true;
                }
            }
            return false;
        }

        private boolean isOwed(int wind) {
            return world.isHere(wind) && world.row[World.OWED + wind] > 0;
        }

        int daysToBroke(int village) {
            int found = world.row[World.PURSE + village] == 0 ? 0 : NONE;
            int can = canPass(MOST_DAYS);
            keepNow();
            for (int i = 1; i <= can && found == NONE; i++) {
                days.pass();
                if (world.row[World.PURSE + village] == 0) {
                    found = i;
                }
            }
            giveBack();
            return found;
        }

        int mildestText(int n) {
            int ruling = world.ruling;
            int best = NONE;
            int least = ANY;
            for (int text = 0; text < world.texts; text++) {
                world.ruling = text;
                keepNow();
                int taken = takenUpTo(n, ANY);
                giveBack();
                if (taken < least) {
                    best = text;
                    least = taken;
                }
            }
            world.ruling = ruling;
            return best;
        }

        void findLeast(int n, int h) {
            leastPence = NONE;
            leastSet = NONE;
            for (int set = 0; set < 1 << world.winds; set++) {
                int pence = penceFor(set);
                if (pence == NONE || leastPence != NONE && pence >= leastPence) {
                    continue;
                }
                keepNow();
                payOff(set);
                if (takenUpTo(n, h) <= h) {
                    leastPence = pence;
                    leastSet = set;
                }
                giveBack();
            }
        }

        /** NONE for a set with a wind that isn't owed anything. */
        private int penceFor(int set) {
            int pence = 0;
            for (int wind = 0; wind < world.winds; wind++) {
                if ((set >> wind & 1) == 1) {
                    if (!isOwed(wind)) {
                        return NONE;
                    }
                    pence += world.row[World.OWED + wind];
                }
            }
            return pence;
        }

        private void payOff(int set) {
            for (int wind = 0; wind < world.winds; wind++) {
                if ((set >> wind & 1) == 1) {
                    world.row[World.OWED + wind] = 0;
                }
            }
        }

        void countCalms(int n) {
            calmDays = 0;
            longestCalm = 0;
            int running = 0;
            int can = canPass(n);
            keepNow();
            for (int i = 0; i < can; i++) {
                days.pass();
                running = days.wasCalm() ? running + 1 : 0;
                calmDays += days.wasCalm() ? 1 : 0;
                longestCalm = Math.max(longestCalm, running);
            }
            giveBack();
        }

        /** Sets when each village is reached soonest from one of them. */
        void setOut(int from) {
            foreseeSpeeds();
            for (int village = 0; village < MOST_VILLAGES; village++) {
                reached[village] = village == from ? 0 : NEVER;
            }
            // A later start never comes in sooner, so going on from the soonest alone is enough.
            for (int round = 0; round < world.villages; round++) {
                for (int one = 0; one < world.villages; one++) {
                    for (int other = 0; other < world.villages; other++) {
                        reached[other] = Math.min(reached[other], arrival(one, other));
                    }
                }
            }
        }

        private void foreseeSpeeds() {
            passed = canPass(MOST_DAYS);
            keepNow();
            for (int i = 0; i < passed; i++) {
                days.pass();
                speeds[i] = days.speed();
            }
            giveBack();
        }

        private int arrival(int one, int other) {
            int left = world.lengthOf(one, other);
            if (left == 0) {
                return NEVER;
            }
            for (int i = reached[one]; i < passed; i++) {
                left -= speeds[i];
                if (left <= 0) {
                    return i + 1;
                }
            }
            return NEVER;
        }

        boolean isReached(int village) {
            return reached[village] != NEVER;
        }

        int lastAhead(int to) {
            for (int village = 0; village < world.villages; village++) {
                if (arrival(village, to) == reached[to]) {
                    return village;
                }
            }
            return NONE;
        }
    }

    /** What must have been, from what is known of it. */
    private static final class Riddles {
        private static final int PAYMENTS = 4;
        private static final int MOST_PAID = 3 * (MOST_SAILS - 1) + 1;

        private final World world;
        private final Laws laws;
        final int[] takes = new int[MOST_VILLAGES];
        private final int[] fitting = new int[MOST_WINDS];
        private final boolean[] seen = new boolean[MOST_AT_ONCE + 1];
        private final boolean[] blowsSo = new boolean[MOST_SAILS * MOST_PAID];

        Riddles(World world, Laws laws) {
            this.world = world;
            this.laws = laws;
        }

        void findTakes(int wind, int force) {
            for (int village = 0; village < world.villages; village++) {
                takes[village] = laws.takesOf(wind, village, force);
            }
        }

        int fittingForces(int wind) {
            int forces = 0;
            for (int force = 1; force <= MOST_FORCE; force++) {
                if (fits(wind, force)) {
                    forces |= 1 << force;
                }
            }
            return forces;
        }

        private boolean fits(int wind, int force) {
            for (int i = 0; i < world.tooks; i++) {
                if (laws.takesOf(wind, world.tookFrom[i], force) != world.tookWhat[i]) {
                    return false;
                }
            }
            return true;
        }

        int fittingWinds() {
            int winds = 0;
            for (int wind = 0; wind < world.winds; wind++) {
                if (fittingForces(wind) != 0) {
                    winds |= 1 << wind;
                }
            }
            return winds;
        }

        int nextVane() {
            for (int wind = 0; wind < world.winds; wind++) {
                fitting[wind] = fittingForces(wind);
            }
            int best = NONE;
            int most = 0;
            for (int village = 0; village < world.villages; village++) {
                int answers = isTookOf(village) ? 0 : unlikeAnswers(village);
                if (answers > most) {
                    best = village;
                    most = answers;
                }
            }
            return best;
        }

        private boolean isTookOf(int village) {
            for (int i = 0; i < world.tooks; i++) {
                if (world.tookFrom[i] == village) {
                    return true;
                }
            }
            return false;
        }

        private int unlikeAnswers(int village) {
            int answers = 0;
            for (int i = 0; i < seen.length; i++) {
                seen[i] = false;
            }
            for (int wind = 0; wind < world.winds; wind++) {
                for (int force = 1; force <= MOST_FORCE; force++) {
                    if ((fitting[wind] >> force & 1) == 1) {
                        int answer = laws.takesOf(wind, village, force);
                        answers += seen[answer] ? 0 : 1;
                        seen[answer] = true;
                    }
                }
            }
            return answers;
        }

        /** For each day, and each tens of pence paid ahead of it, whether it blows as the sails say. */
        void findSails(int wind, int o) {
            int[] row = world.row;
            int owed = row[World.OWED + wind];
            int force = row[World.FORCE + wind];
            for (int i = 0; i < world.sails; i++) {
                row[World.FORCE + wind] = i == 0 ? force : world.sail[i - 1];
                for (int tens = 0; tens <= 3 * i; tens++) {
                    row[World.OWED + wind] = o - 10 * tens;
                    blowsSo[i * MOST_PAID + tens] = laws.blowsOf(wind) == world.sail[i];
                }
            }
            row[World.OWED + wind] = owed;
            row[World.FORCE + wind] = force;
        }

        private int rows() {
            return world.sails == 0 ? 0 : 1 << 2 * (world.sails - 1);
        }

        private static int payment(int row, int i) {
            return row >> 2 * i & PAYMENTS - 1;
        }

        private boolean isSo(int row) {
            int tens = 0;
            for (int i = 0; i < world.sails; i++) {
                if (!blowsSo[i * MOST_PAID + tens]) {
                    return false;
                }
                tens += payment(row, i);
            }
            return true;
        }

        int countRows() {
            int count = 0;
            for (int row = 0; row < rows(); row++) {
                count += isSo(row) ? 1 : 0;
            }
            return count;
        }

        int surePayment(int i) {
            int payments = 0;
            for (int row = 0; row < rows(); row++) {
                if (isSo(row)) {
                    payments |= 1 << payment(row, i);
                }
            }
            return Integer.bitCount(payments) == 1 ? 10 * Integer.numberOfTrailingZeros(payments) : NONE;
        }
    }

    /** A fraction in lowest terms. */
    private static final class Fraction {
        private static final int[] ORDERS = {1, 1, 2, 6, 24, 120, 720};

        long upper = 0;
        long lower = 1;

        private void set(long above, long below) {
            long divisor = above;
            long rest = below;
            for (int i = 0; i < 1000 && rest != 0; i++) {
                long next = divisor % rest;
                divisor = rest;
                rest = next;
            }
            if (divisor == 0) {
                divisor = 1;
            }
            upper = above / divisor;
            lower = below / divisor;
        }

        void setOdds(World world, int wind, int n) {
            long all = world.weightOfAll();
            long own = world.weightOf(wind);
            if (own == 0) {
                set(n == 0 ? 0 : 1, 1);
                return;
            }
            long above = n == 0 ? own : 1;
            long below = n == 0 ? all : 1;
            for (int i = 0; i < n; i++) {
                above *= all - own;
                below *= all;
            }
            set(above, below);
        }

        /** Of all orders, those in which just a set is there ahead of the village weigh the same. */
        void setShare(int[] takes, int set, int village) {
            int size = Integer.bitCount(set);
            long above = 0;
            for (int ahead = 0; ahead < 1 << MOST_VILLAGES; ahead++) {
                if ((ahead & ~set) == 0 && (ahead >> village & 1) == 0) {
                    int before = Integer.bitCount(ahead);
                    long orders = (long) ORDERS[before] * ORDERS[size - 1 - before];
                    above += orders * Math.max(0, takes[village] - mostOf(takes, ahead));
                }
            }
            set(above, ORDERS[size]);
        }

        private static int mostOf(int[] takes, int set) {
            int most = 0;
            for (int i = 0; i < takes.length; i++) {
                if ((set >> i & 1) == 1) {
                    most = Math.max(most, takes[i]);
                }
            }
            return most;
        }
    }

    /** The fewest pieces worth each sum. */
    private static final class Coins {
        final int[] fewest = new int[MOST_WORTH + 1];

        void count(int[] kind, int kinds, int n) {
            fewest[0] = 0;
            for (int sum = 1; sum <= n; sum++) {
                fewest[sum] = NONE;
                for (int i = 0; i < kinds; i++) {
                    int rest = sum - kind[i];
                    if (rest >= 0 && fewest[rest] != NONE && (fewest[sum] == NONE || fewest[rest] + 1 < fewest[sum])) {
                        fewest[sum] = fewest[rest] + 1;
                    }
                }
            }
        }

        /** Taking the first kind as long as the rest stays a fewest one gives most of it, then so the next. */
        int piecesOf(int[] kind, int wanted, int n) {
            if (fewest[n] == NONE) {
                return NONE;
            }
            int left = n;
            int pieces = 0;
            for (int i = 0; i <= wanted; i++) {
                pieces = 0;
                while (pieces < n && left >= kind[i] && fewest[left - kind[i]] == fewest[left] - 1) {
                    left -= kind[i];
                    pieces++;
                }
            }
            return pieces;
        }
    }
}
