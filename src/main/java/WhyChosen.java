/**
 * Why they choose: things with marks and prices, choices out of sets, models that
 * give odds to what is taken, orders that agree with what was taken, sets to ask and
 * to lay out. The document that it keeps to is ../shared/DOC.md.
 */
public final class WhyChosen {
    public static final int NONE = -1, BAD = -2, STATE = -3, FULL = -4;
    public static final long NO = Long.MIN_VALUE;

    private static final int NOTHING_THERE = -11, CAST = -12, PLACE = -13, SIZE = -14;
    private static final int NO_SUCH = -5, NO_SHARE = -6, FAULT_BASE = -10;
    private static final int MOST_THINGS = 6, MOST_TAKERS = 16, MOST_CHOICES = 80;
    private static final int MOST_MODELS = 10, MOST_BYTES = 120, MOST_ASKS = 10;
    private static final int KINDS = 3, NESTS = 4, MARKS = 8, PRICES = 100;
    private static final int MODEL_KINDS = 6, ACTS = 3;
    private static final int NOTHING = 7, OPTIONS = 8;
    private static final int USED = 0, KEPT = 1, LET_GO = 2;
    private static final int TAPES = 6, SORTS = 5, MOST_ITEMS = 60, LONGS = 3, MOST_SHEET = 20;

    private final Goods goods;
    private final int[] takerKinds;
    private final int[] takersOfKind;
    private int takers;
    private final Choices choices;
    private final int[] text;
    private int textLength;
    private final Model[] models;
    private int modelCount;
    private final Orders orders;
    private final int[] asks;
    private int askCount;
    private final Trace trace;
    private final int[] tapeSorts;
    private final int[] tapeSizes;
    private final long[][] tapeRows;

    public WhyChosen() {
        goods = new Goods();
        takerKinds = new int[MOST_TAKERS];
        takersOfKind = new int[KINDS];
        choices = new Choices();
        text = new int[MOST_BYTES];
        models = new Model[MOST_MODELS];
        orders = new Orders();
        asks = new int[MOST_ASKS];
        trace = new Trace();
        tapeSorts = new int[TAPES];
        tapeSizes = new int[TAPES];
        tapeRows = new long[TAPES][MOST_ITEMS];
        for (int i = 0; i < TAPES; i++) {
            tapeSorts[i] = -1;
        }
    }

    // ---- things, takers, choices

    public int thing(int marks, int price, int nest) {
        if (!within(marks, 1 << MARKS) || !within(price, PRICES) || !within(nest, NESTS)) {
            return BAD;
        }
        if (choices.count > 0 || askCount > 0) {
            return STATE;
        }
        return goods.add(marks, price, nest);
    }

    public int price(int thing, int n) {
        if (!goods.has(thing)) {
            return NONE;
        }
        if (!within(n, PRICES)) {
            return BAD;
        }
        int was = goods.prices[thing];
        goods.prices[thing] = n;
        return was;
    }

    public int taker(int kind) {
        if (!within(kind, KINDS)) {
            return BAD;
        }
        if (takers >= MOST_TAKERS) {
            return FULL;
        }
        takerKinds[takers] = kind;
        takersOfKind[kind]++;
        return takers++;
    }

    public int choice(int taker, int set, int taken) {
        if (!within(taker, takers)) {
            return NONE;
        }
        return tellChoice(taker, set, taken);
    }

    public int put(int choice, int as) {
        if (!within(choice, choices.count)) {
            return NONE;
        }
        if (as < USED || as > LET_GO) {
            return BAD;
        }
        int was = choices.puts[choice];
        choices.puts[choice] = as;
        return was;
    }

    public int of(int choice, int what) {
        if (!within(choice, choices.count)) {
            return NONE;
        }
        switch (what) {
            case 0:
                return choices.takers[choice];
            case 1:
                return choices.sets[choice];
            case 2:
                return choices.options[choice] == NOTHING ? NO_SUCH : choices.options[choice];
            case 3:
                return choices.puts[choice];
            default:
                return NONE;
        }
    }

    // ---- models

    public int feed(int bytes, int n) {
        if (n < 0 || n > 4) {
            return BAD;
        }
        if (n > MOST_BYTES - textLength) {
            return FULL;
        }
        for (int i = n - 1; i >= 0; i--) {
            text[textLength] = bytes >>> (8 * i) & 255;
            textLength++;
        }
        return textLength;
    }

    public int model(int kind) {
        if (!within(kind, MODEL_KINDS)) {
            return NONE;
        }
        if (modelCount >= MOST_MODELS) {
            return FULL;
        }
        Text told = new Text(text, textLength);
        textLength = 0;
        if (!told.readClauses()) {
            return FAULT_BASE - told.place;
        }
        models[modelCount] = newModel(kind, modelCount, told);
        return modelCount++;
    }

    public int weight(int model, int thing, int kind) {
        Model m = modelAt(model);
        if (m == null || !isOption(thing) || !within(kind, KINDS)) {
            return NONE;
        }
        return m.weightOf(goods, thing, kind);
    }

    public long odds(int model, int thing, int set, int kind, int part) {
        Model m = modelAt(model);
        if (m == null || !isOption(thing) || !within(kind, KINDS) || !within(part, 2)) {
            return NO;
        }
        if (!goods.hasSome(set)) {
            return NO;
        }
        m.prepare(goods);
        m.share(goods, set, kind);
        long divisor = greatestCommon(m.above[thing], m.below[thing]);
        return (part == 0 ? m.above[thing] : m.below[thing]) / divisor;
    }

    public int score(int model, int as) {
        Model m = modelAt(model);
        return m == null || !isScored(as) ? NONE : scoreOf(m, as);
    }

    public int misses(int model, int as) {
        Model m = modelAt(model);
        return m == null || !isScored(as) ? NONE : missesOf(m, as);
    }

    public int grid(int model, int thing) {
        Model m = modelAt(model);
        if (m == null || !goods.has(thing)) {
            return NONE;
        }
        int told = m.text.worths[thing];
        int best = 0;
        int most = -1;
        for (int worth = 1; worth <= 30; worth++) {
            m.text.worths[thing] = worth;
            int reached = scoreOf(m, USED);
            if (reached > most) {
                most = reached;
                best = worth;
            }
        }
        m.text.worths[thing] = told;
        return best;
    }

    public int which(int a, int b) {
        if (modelAt(a) == null || modelAt(b) == null || a > b) {
            return NONE;
        }
        int best = a;
        int most = -1;
        int fewest = 0;
        for (int i = a; i <= b; i++) {
            Model m = modelAt(i);
            if (m == null) {
                continue;
            }
            int reached = scoreOf(m, KEPT);
            int missed = missesOf(m, KEPT);
            if (reached > most || reached == most && missed < fewest) {
                best = i;
                most = reached;
                fewest = missed;
            }
        }
        return best;
    }

    // ---- orders

    public int agree(int taker) {
        if (!within(taker, takers)) {
            return NONE;
        }
        gatherOne(taker);
        return orders.countAgreeing();
    }

    public int letgo(int taker) {
        if (!within(taker, takers)) {
            return NONE;
        }
        gatherOne(taker);
        return orders.fewestBroken();
    }

    public int like(int a, int b) {
        if (!within(a, takers) || !within(b, takers)) {
            return NONE;
        }
        if (a == b) {
            return BAD;
        }
        gatherOne(a);
        gatherMore(b);
        return orders.countAgreeing() > 0 ? 1 : 0;
    }

    public int would(int taker, int set) {
        if (!within(taker, takers)) {
            return NONE;
        }
        return goods.hasSome(set) ? couldTake(taker, set) : BAD;
    }

    public int must(int thing, int set, int what) {
        if (!goods.has(thing) || !within(what, 2)) {
            return NONE;
        }
        if (!goods.hasSome(set) || !isIn(thing, set)) {
            return BAD;
        }
        int sum = 0;
        for (int taker = 0; taker < takers; taker++) {
            int could = couldTake(taker, set);
            if (what == 0 ? could == 1 << thing : isIn(thing, could)) {
                sum++;
            }
        }
        return sum;
    }

    // ---- asking

    public int ask(int set) {
        if (!goods.hasSome(set)) {
            return BAD;
        }
        if (askCount >= MOST_ASKS) {
            return FULL;
        }
        asks[askCount] = set;
        return askCount++;
    }

    public int next(int taker) {
        if (!within(taker, takers)) {
            return NONE;
        }
        gatherOne(taker);
        if (orders.countAgreeing() == 0) {
            return NO_SUCH;
        }
        int best = NO_SUCH;
        int least = 0;
        for (int i = 0; i < askCount; i++) {
            orders.countTakes(asks[i]);
            int most = orders.mostTakes();
            if (best == NO_SUCH || most < least) {
                best = i;
                least = most;
            }
        }
        return best;
    }

    public int silly(int set) {
        if (!goods.hasAll(set)) {
            return BAD;
        }
        return goods.isSilly(set) ? 1 : 0;
    }

    public int could(int choice) {
        if (!within(choice, choices.count)) {
            return NONE;
        }
        int set = choices.sets[choice];
        int sum = 0;
        for (int i = 0; i < askCount; i++) {
            if ((asks[i] & set) == set) {
                sum++;
            }
        }
        return sum;
    }

    public int away(int a, int b, int what) {
        if (!goods.has(a) || !goods.has(b) || !within(what, 5)) {
            return NONE;
        }
        if (a == b) {
            return BAD;
        }
        if (what < 2) {
            return choices.countWith(a, b, true, what == 0);
        }
        return what < 4 ? choices.countWith(a, b, false, what == 2) : compareAway(a, b);
    }

    // ---- laid out

    public long coin(int model, int set) {
        Model m = modelAt(model);
        if (m == null || !goods.hasAll(set)) {
            return NO;
        }
        m.prepare(goods);
        return coinOf(m, set);
    }

    public int lay(int model, int n) {
        Model m = modelAt(model);
        if (m == null) {
            return NONE;
        }
        if (n < 0 || n > MOST_THINGS) {
            return BAD;
        }
        m.prepare(goods);
        int best = 0;
        int most = 0;
        for (int set = 1; set < 1 << goods.count; set++) {
            int size = Integer.bitCount(set);
            if (size > n) {
                continue;
            }
            int sum = coinOf(m, set);
            if (sum > most || sum == most && size < Integer.bitCount(best)) {
                most = sum;
                best = set;
            }
        }
        return best;
    }

    public int best(int model, int thing, int set) {
        Model m = modelAt(model);
        if (m == null || !goods.has(thing)) {
            return NONE;
        }
        if (!goods.hasSome(set) || !isIn(thing, set)) {
            return BAD;
        }
        int was = goods.prices[thing];
        int best = 0;
        int most = -1;
        for (int price = 0; price < PRICES; price++) {
            goods.prices[thing] = price;
            m.prepare(goods);
            int sum = coinOf(m, set);
            if (sum > most) {
                most = sum;
                best = price;
            }
        }
        goods.prices[thing] = was;
        return best;
    }

    public int worse(int model, int set, int than) {
        Model m = modelAt(model);
        if (m == null) {
            return NONE;
        }
        if (!goods.hasAll(set) || !goods.hasAll(than)) {
            return BAD;
        }
        m.prepare(goods);
        int sum = 0;
        for (int kind = 0; kind < KINDS; kind++) {
            if (m.greatestWeight(goods, set, kind) < m.greatestWeight(goods, than, kind)) {
                sum += takersOfKind[kind];
            }
        }
        return sum;
    }

    // ---- acts, tapes

    public int act(int model, int act, int x) {
        trace.clear();
        Model m = modelAt(model);
        if (m == null || !within(act, ACTS)) {
            return 0;
        }
        if (act == 0) {
            return m.weighsBody(x, trace);
        }
        return act == 1 ? m.oddsBody(x, trace) : m.tellsBody(x, trace);
    }

    public int trace(int i) {
        return within(i, trace.kept()) ? trace.bodies[i] : NONE;
    }

    public int taken(int model, int k) {
        if (!within(k, MODEL_KINDS)) {
            return BAD;
        }
        Model m = modelAt(model);
        if (m == null) {
            return NOTHING_THERE;
        }
        return isOfKind(m, k) ? m.kind : CAST;
    }

    public int sheet(int tape, int i, int n, int taker) {
        if (!within(tape, TAPES) || !within(taker, takers)) {
            return NONE;
        }
        if (n < 1 || n > MOST_SHEET) {
            return BAD;
        }
        if (tapeSorts[tape] >= 0 && tapeSorts[tape] != LONGS) {
            return CAST;
        }
        int came = 0;
        // an empty tape has size 0, so that all its items are lost without a look at its sort
        for (int k = 0; k < n && i >= 0 && k < tapeSizes[tape] - i; k++) {
            if (tellLine(taker, tapeRows[tape][i + k]) >= 0) {
                came++;
            }
        }
        return 100 * came + (n - came);
    }

    public int count(int what) {
        switch (what) {
            case 0:
                return goods.count;
            case 1:
                return takers;
            case 2:
                return choices.count;
            case 3:
                return modelCount;
            case 4:
                return textLength;
            case 5:
                return askCount;
            case 6:
                return ordersThereAre();
            case 7:
                return trace.ran;
            default:
                return BAD;
        }
    }

    public int tape(int tape, int sort, int n) {
        if (!within(tape, TAPES)) {
            return NONE;
        }
        if (sort < -1 || sort >= SORTS) {
            return BAD;
        }
        int size = sort < 0 ? 0 : n;
        if (size > MOST_ITEMS) {
            return BAD;
        }
        if (size < 0) {
            return SIZE;
        }
        tapeSorts[tape] = sort;
        tapeSizes[tape] = size;
        for (int i = 0; i < size; i++) {
            tapeRows[tape][i] = 0;
        }
        return 1;
    }

    public int item(int tape, int i, long v) {
        if (!within(tape, TAPES)) {
            return NONE;
        }
        if (tapeSorts[tape] < 0) {
            return NOTHING_THERE;
        }
        if (!within(i, tapeSizes[tape])) {
            return PLACE;
        }
        tapeRows[tape][i] = asItem(tapeSorts[tape], v);
        return 1;
    }

    public long read(int tape, int i) {
        if (!within(tape, TAPES) || !within(i, tapeSizes[tape])) {
            return NO;
        }
        return tapeRows[tape][i];
    }

    public int shift(int tape, int i, int other, int j, int n) {
        if (!within(tape, TAPES) || !within(other, TAPES)) {
            return NONE;
        }
        if (tapeSorts[tape] < 0 || tapeSorts[other] < 0) {
            return NOTHING_THERE;
        }
        if (tapeSorts[tape] != tapeSorts[other]) {
            return CAST;
        }
        if (!fits(i, n, tapeSizes[tape]) || !fits(j, n, tapeSizes[other])) {
            return PLACE;
        }
        System.arraycopy(tapeRows[tape], i, tapeRows[other], j, n);
        return n;
    }

    // ---- what several calls share

    private static boolean within(int i, int end) {
        return i >= 0 && i < end;
    }

    private static boolean isIn(int option, int set) {
        return (set >> option & 1) != 0;
    }

    private static boolean isScored(int as) {
        return as == USED || as == KEPT;
    }

    private static boolean fits(int from, int n, int size) {
        // the difference, since a sum of two great numbers would wrap
        return n >= 0 && from >= 0 && n <= size && from <= size - n;
    }

    private static long greatestCommon(long a, long b) {
        // a hundred steps are enough for any two longs
        for (int i = 0; i < 100 && b != 0; i++) {
            long rest = a % b;
            a = b;
            b = rest;
        }
        return a == 0 ? 1 : a;
    }

    private static long asItem(int sort, long v) {
        switch (sort) {
            case 0:
                return (byte) v;
            case 1:
                return (short) v;
            case 2:
                return (int) v;
            case LONGS:
                return v;
            default:
                return v != 0 ? 1 : 0;
        }
    }

    private static Model newModel(int kind, int number, Text told) {
        switch (kind) {
            case 1:
                return new Plain(kind, number, told);
            case 2:
                return new Nested(kind, number, told);
            case 3:
                return new Mixed(kind, number, told);
            case 4:
                return new Looked(kind, number, told);
            case 5:
                return new Rule(kind, number, told);
            default:
                return new Model(kind, number, told);
        }
    }

    private static boolean isOfKind(Model m, int kind) {
        switch (kind) {
            case 1:
                return m instanceof Plain;
            case 2:
                return m instanceof Nested;
            case 3:
                return m instanceof Mixed;
            case 4:
                return m instanceof Looked;
            case 5:
                return m instanceof Rule;
            default:
                return true;
        }
    }

    private boolean isOption(int thing) {
        return thing == NOTHING || goods.has(thing);
    }

    private Model modelAt(int model) {
        return within(model, modelCount) ? models[model] : null;
    }

    private int tellChoice(int taker, int set, int taken) {
        if (!goods.hasSome(set) || taken < -1) {
            return BAD;
        }
        if (taken >= 0 && (!goods.has(taken) || !isIn(taken, set))) {
            return BAD;
        }
        return choices.add(taker, set, taken < 0 ? NOTHING : taken);
    }

    private int tellLine(int taker, long line) {
        // as a long first: a great number must not wrap into a set that there is
        long set = line / 100;
        if (line < 0 || set >= 1 << MOST_THINGS) {
            return BAD;
        }
        return tellChoice(taker, (int) set, (int) (line % 100) - 1);
    }

    private int scoreOf(Model m, int as) {
        m.prepare(goods);
        int sum = 0;
        for (int c = 0; c < choices.count; c++) {
            if (choices.puts[c] == as) {
                m.share(goods, choices.sets[c], takerKinds[choices.takers[c]]);
                sum += m.thousandths(choices.options[c]);
            }
        }
        return sum;
    }

    private int missesOf(Model m, int as) {
        m.prepare(goods);
        int sum = 0;
        for (int c = 0; c < choices.count; c++) {
            if (choices.puts[c] == as) {
                m.share(goods, choices.sets[c], takerKinds[choices.takers[c]]);
                // what is not in the set has odds 0, so it never beats what was taken
                sum += m.isBeaten(choices.options[c]) ? 1 : 0;
            }
        }
        return sum;
    }

    private int ordersThereAre() {
        int product = 1;
        for (int i = 2; i <= goods.count + 1; i++) {
            product *= i;
        }
        return product;
    }

    private void gatherOne(int taker) {
        orders.clear(goods.count);
        gatherMore(taker);
    }

    private void gatherMore(int taker) {
        for (int c = 0; c < choices.count; c++) {
            if (choices.takers[c] == taker && choices.puts[c] == USED) {
                orders.require(choices.sets[c], choices.options[c]);
            }
        }
    }

    private int couldTake(int taker, int set) {
        gatherOne(taker);
        if (orders.countAgreeing() == 0) {
            return 0;
        }
        orders.countTakes(set);
        return orders.takenBits();
    }

    private int compareAway(int a, int b) {
        int takenWith = choices.countWith(a, b, true, true);
        int allWith = choices.countWith(a, b, true, false);
        int takenWithout = choices.countWith(a, b, false, true);
        int allWithout = choices.countWith(a, b, false, false);
        if (allWith == 0 || allWithout == 0) {
            return NO_SHARE;
        }
        int without = takenWithout * allWith;
        int with = takenWith * allWithout;
        if (without == with) {
            return 0;
        }
        return without > with ? 1 : NO_SUCH;
    }

    private int coinOf(Model prepared, int set) {
        int sum = 0;
        for (int kind = 0; kind < KINDS && set != 0; kind++) {
            if (takersOfKind[kind] > 0) {
                prepared.share(goods, set, kind);
                sum += takersOfKind[kind] * coinOfShares(prepared, set);
            }
        }
        return sum;
    }

    private int coinOfShares(Model shared, int set) {
        int sum = 0;
        for (int thing = 0; thing < goods.count; thing++) {
            if (isIn(thing, set)) {
                sum += goods.prices[thing] * shared.thousandths(thing);
            }
        }
        return sum;
    }

    // ---- classes inside

    /** The THINGS that there are. */
    private static final class Goods {
        final int[] marks = new int[MOST_THINGS];
        final int[] prices = new int[MOST_THINGS];
        final int[] nests = new int[MOST_THINGS];
        int count;

        Goods() {
        }

        int add(int mark, int price, int nest) {
            if (count >= MOST_THINGS) {
                return FULL;
            }
            marks[count] = mark;
            prices[count] = price;
            nests[count] = nest;
            return count++;
        }

        boolean has(int thing) {
            return within(thing, count);
        }

        boolean hasAll(int set) {
            return set >= 0 && set >> count == 0;
        }

        boolean hasSome(int set) {
            return set != 0 && hasAll(set);
        }

        boolean isSilly(int set) {
            if (Integer.bitCount(set) < 2) {
                return false;
            }
            for (int thing = 0; thing < count; thing++) {
                if (isIn(thing, set) && outdoesAll(thing, set)) {
                    return true;
                }
            }
            return false;
        }

        private boolean outdoesAll(int thing, int set) {
            for (int other = 0; other < count; other++) {
                if (!isIn(other, set)) {
                    continue;
                }
                if ((marks[other] & ~marks[thing]) != 0 || prices[thing] > prices[other]) {
                    return false;
                }
            }
            return true;
        }

        int cheapestOf(int set) {
            int best = NOTHING;
            for (int thing = 0; thing < count; thing++) {
                if (isIn(thing, set) && (best == NOTHING || prices[thing] < prices[best])) {
                    best = thing;
                }
            }
            return best;
        }

        int mostMarkedOf(int set) {
            int best = NOTHING;
            int most = -1;
            for (int thing = 0; thing < count; thing++) {
                if (isIn(thing, set) && Integer.bitCount(marks[thing]) > most) {
                    most = Integer.bitCount(marks[thing]);
                    best = thing;
                }
            }
            return best;
        }

        /** The bits of the THINGS for which a TEST holds. */
        int passing(int test, int n) {
            int set = 0;
            for (int thing = 0; thing < count; thing++) {
                if (passes(thing, test, n)) {
                    set |= 1 << thing;
                }
            }
            return set;
        }

        private boolean passes(int thing, int test, int n) {
            switch (test) {
                case Text.HAS_MARK:
                    return isIn(n, marks[thing]);
                case Text.IS_THING:
                    return thing == n;
                case Text.IS_NEST:
                    return nests[thing] == n;
                case Text.COSTS_LESS:
                    return prices[thing] < n;
                case Text.COSTS:
                    return prices[thing] == n;
                default:
                    return prices[thing] > n;
            }
        }
    }

    /** The CHOICES, each with what was taken as a THING or NOTHING. */
    private static final class Choices {
        final int[] takers = new int[MOST_CHOICES];
        final int[] sets = new int[MOST_CHOICES];
        final int[] options = new int[MOST_CHOICES];
        final int[] puts = new int[MOST_CHOICES];
        int count;

        Choices() {
        }

        int add(int taker, int set, int option) {
            if (count >= MOST_CHOICES) {
                return FULL;
            }
            takers[count] = taker;
            sets[count] = set;
            options[count] = option;
            puts[count] = USED;
            return count++;
        }

        /** How many USED ones have a, and b or not b, in the SET (and a was TAKEN). */
        int countWith(int a, int b, boolean withB, boolean takenOnly) {
            int sum = 0;
            for (int c = 0; c < count; c++) {
                boolean counts = puts[c] == USED && isIn(a, sets[c]) && isIn(b, sets[c]) == withB;
                if (counts && (!takenOnly || options[c] == a)) {
                    sum++;
                }
            }
            return sum;
        }
    }

    /** What a TEXT tells; the picks are kept as code for a small stack. */
    private static final class Text {
        static final int NOT = 0, AND = 1, OR = 2, HAS_MARK = 3, IS_THING = 4, IS_NEST = 5;
        static final int COSTS_LESS = 6, COSTS = 7, COSTS_MORE = 8;
        private static final int MOST_CLAUSES = 10, MOST_DEPTH = 4, WORDS = 7, MOST_STACK = 16;

        private final int[] bytes;
        private final int length;
        int place;
        int clauses;
        final int[] worths = new int[MOST_THINGS];
        final int[] markWorths = new int[MARKS];
        int price;
        int none;
        int look = MOST_THINGS;
        final int[] shares = new int[KINDS];
        final int[] times = new int[KINDS];
        private final int[] code;
        private int codeLength;
        private final int[] pickEnds = new int[MOST_CLAUSES];
        private final int[] holding = new int[MOST_CLAUSES];
        private int picks;
        private final int[] stack = new int[MOST_STACK];

        Text(int[] bytes, int length) {
            this.bytes = bytes;
            this.length = length;
            code = new int[MOST_BYTES];
            for (int i = 0; i < MOST_THINGS; i++) {
                worths[i] = 10;
            }
            for (int i = 0; i < KINDS; i++) {
                times[i] = 1;
            }
        }

        /** Whether all was read; if not, the place is that of the FAULT. */
        boolean readClauses() {
            for (int i = 0; i < MOST_CLAUSES; i++) {
                if (!readClause()) {
                    return false;
                }
                clauses++;
                if (place == length) {
                    return true;
                }
                if (i == MOST_CLAUSES - 1 || !take(';')) {
                    return false;
                }
            }
            return false;
        }

        private boolean readClause() {
            switch (readWord()) {
                case 0:
                    return readWorth(worths);
                case 1:
                    return readWorth(markWorths);
                case 2:
                    price = readPart();
                    return price >= 0;
                case 3:
                    none = readPart();
                    return none >= 0;
                case 4:
                    look = readFigurePart(1, 9);
                    return look >= 0;
                case 5:
                    return readKind();
                case 6:
                    return take(' ') && readAny(0) && endPick();
                default:
                    return false;
            }
        }

        private static String wordAt(int i) {
            switch (i) {
                case 0:
                    return "worth";
                case 1:
                    return "mark";
                case 2:
                    return "price";
                case 3:
                    return "none";
                case 4:
                    return "look";
                case 5:
                    return "kind";
                default:
                    return "pick";
            }
        }

        private int readWord() {
            int furthest = 0;
            for (int i = 0; i < WORDS; i++) {
                String word = wordAt(i);
                int alike = countAlike(word);
                furthest = Math.max(furthest, alike);
                if (alike == word.length()) {
                    place += alike;
                    return i;
                }
            }
            // the fault stands where the word that goes furthest ends to be one
            place += furthest;
            return -1;
        }

        private int countAlike(String word) {
            int alike = 0;
            while (alike < word.length() && alike < length - place
                    && word.charAt(alike) == bytes[place + alike]) {
                alike++;
            }
            return alike;
        }

        private boolean readWorth(int[] row) {
            int i = readFigurePart(0, row.length - 1);
            if (i < 0) {
                return false;
            }
            int n = readPart();
            if (n < 0) {
                return false;
            }
            row[i] = n;
            return true;
        }

        private boolean readKind() {
            int kind = readFigurePart(0, KINDS - 1);
            if (kind < 0) {
                return false;
            }
            shares[kind] = readFigurePart(0, 9);
            if (shares[kind] < 0) {
                return false;
            }
            times[kind] = readPart();
            return times[kind] >= 0;
        }

        private boolean endPick() {
            if (picks >= pickEnds.length) {
                return false;
            }
            pickEnds[picks] = codeLength;
            picks++;
            return true;
        }

        /** An E, within so many ( and ! as the depth tells. */
        private boolean readAny(int depth) {
            if (!readAll(depth)) {
                return false;
            }
            for (int i = 0; i < MOST_BYTES && take('|'); i++) {
                if (!readAll(depth)) {
                    return false;
                }
                emit(OR, 0);
            }
            return true;
        }

        /** A T. */
        private boolean readAll(int depth) {
            if (!readOne(depth)) {
                return false;
            }
            for (int i = 0; i < MOST_BYTES && take('&'); i++) {
                if (!readOne(depth)) {
                    return false;
                }
                emit(AND, 0);
            }
            return true;
        }

        /** An F. */
        private boolean readOne(int depth) {
            boolean mayNest = depth < MOST_DEPTH;
            if (mayNest && take('!')) {
                if (!readOne(depth + 1)) {
                    return false;
                }
                emit(NOT, 0);
                return true;
            }
            if (mayNest && take('(')) {
                return readAny(depth + 1) && take(')');
            }
            if (take('p')) {
                return readPriceTest();
            }
            if (take('m')) {
                return readFigureTest(HAS_MARK);
            }
            if (take('t')) {
                return readFigureTest(IS_THING);
            }
            return take('n') && readFigureTest(IS_NEST);
        }

        private boolean readFigureTest(int test) {
            if (!take('=')) {
                return false;
            }
            int n = readFigure(0, 9);
            emit(test, n);
            return n >= 0;
        }

        private boolean readPriceTest() {
            int test = COSTS_LESS;
            if (take('=')) {
                test = COSTS;
            } else if (take('>')) {
                test = COSTS_MORE;
            } else if (!take('<')) {
                return false;
            }
            int n = readNumber();
            emit(test, n);
            return n >= 0;
        }

        private boolean take(char sign) {
            if (place >= length || bytes[place] != sign) {
                return false;
            }
            place++;
            return true;
        }

        private int readPart() {
            return take(' ') ? readNumber() : -1;
        }

        private int readFigurePart(int least, int most) {
            return take(' ') ? readFigure(least, most) : -1;
        }

        private int readNumber() {
            int n = -1;
            for (int i = 0; i < 3 && place < length; i++) {
                int figure = bytes[place] - '0';
                if (figure < 0 || figure > 9) {
                    break;
                }
                n = (n < 0 ? 0 : 10 * n) + figure;
                place++;
            }
            return n;
        }

        private int readFigure(int least, int most) {
            if (place >= length) {
                return -1;
            }
            int figure = bytes[place] - '0';
            if (figure < least || figure > most) {
                return -1;
            }
            place++;
            return figure;
        }

        private void emit(int step, int n) {
            if (codeLength < code.length) {
                code[codeLength] = n << 4 | step;
                codeLength++;
            }
        }

        /** Of each pick for which THINGS it holds. */
        void runPicks(Goods goods) {
            int from = 0;
            for (int i = 0; i < picks; i++) {
                holding[i] = holdingFor(goods, from, pickEnds[i]);
                from = pickEnds[i];
            }
        }

        /** The THING of a SET that is PICKED, or NOTHING; runPicks() comes ahead of it. */
        int pickFrom(Goods goods, int set) {
            for (int i = 0; i < picks; i++) {
                if ((holding[i] & set) != 0) {
                    return goods.cheapestOf(holding[i] & set);
                }
            }
            return NOTHING;
        }

        /** Runs the code for all THINGS at once, each a bit. */
        private int holdingFor(Goods goods, int from, int to) {
            int height = 0;
            for (int i = from; i < to && i < code.length; i++) {
                int step = code[i] & 15;
                if (step == NOT && height > 0) {
                    stack[height - 1] = ~stack[height - 1];
                } else if (step == AND && height > 1) {
                    height--;
                    stack[height - 1] &= stack[height];
                } else if (step == OR && height > 1) {
                    height--;
                    stack[height - 1] |= stack[height];
                } else if (step > OR && height < stack.length) {
                    stack[height] = goods.passing(step, code[i] >> 4);
                    height++;
                }
            }
            return height > 0 ? stack[0] : 0;
        }
    }

    /** A model of KIND 0, and what all kinds have. */
    private static class Model {
        final int kind;
        final int number;
        final Text text;
        // by KIND of takers, OPTIONS of each; made by prepare()
        final int[] weights = new int[KINDS * OPTIONS];
        // the ODDS of each option; made by share()
        final long[] above = new long[OPTIONS];
        final long[] below = new long[OPTIONS];

        Model(int kind, int number, Text text) {
            this.kind = kind;
            this.number = number;
            this.text = text;
        }

        final int weightOf(Goods goods, int thing, int kind) {
            if (thing == NOTHING) {
                return Math.min(text.none, 50);
            }
            int weight = text.worths[thing];
            for (int mark = 0; mark < MARKS; mark++) {
                if (isIn(mark, goods.marks[thing])) {
                    weight += text.markWorths[mark];
                }
            }
            weight = Math.max(1, weight - text.price * goods.prices[thing] / 10);
            if (thing % KINDS == kind) {
                weight *= Math.max(1, text.times[kind]);
            }
            return Math.min(weight, 50);
        }

        /** What the ODDS of all SETS need alike; to be done again when a THING changes. */
        void prepare(Goods goods) {
            for (int kind = 0; kind < KINDS; kind++) {
                for (int thing = 0; thing < goods.count; thing++) {
                    weights[kind * OPTIONS + thing] = weightOf(goods, thing, kind);
                }
                weights[kind * OPTIONS + NOTHING] = weightOf(goods, NOTHING, kind);
            }
        }

        final int weighed(int option, int kind) {
            return weights[kind * OPTIONS + option];
        }

        final int sumWeights(Goods goods, int set, int kind) {
            int sum = 0;
            for (int thing = 0; thing < goods.count; thing++) {
                if (isIn(thing, set)) {
                    sum += weighed(thing, kind);
                }
            }
            return sum;
        }

        final int greatestWeight(Goods goods, int set, int kind) {
            int greatest = 0;
            for (int thing = 0; thing < goods.count; thing++) {
                if (isIn(thing, set)) {
                    greatest = Math.max(greatest, weighed(thing, kind));
                }
            }
            return greatest;
        }

        final void clearShares() {
            for (int option = 0; option < OPTIONS; option++) {
                above[option] = 0;
                below[option] = 1;
            }
        }

        final int thousandths(int option) {
            return below[option] <= 0 ? 0 : (int) (1000 * above[option] / below[option]);
        }

        final boolean isBeaten(int option) {
            for (int other = 0; other < OPTIONS; other++) {
                if (above[other] * below[option] > above[option] * below[other]) {
                    return true;
                }
            }
            return false;
        }

        /** The ODDS of all in a SET that is not empty; prepare() comes ahead of it. */
        void share(Goods goods, int set, int kind) {
            clearShares();
            for (int thing = 0; thing < goods.count; thing++) {
                if (isIn(thing, set)) {
                    above[thing] = 1;
                    below[thing] = Integer.bitCount(set);
                }
            }
        }

        int weighsBody(int x, Trace trace) {
            trace.note(10);
            return x + text.clauses;
        }

        int oddsBody(int x, Trace trace) {
            trace.note(11);
            return weighsBody(x, trace) - number;
        }

        int tellsBody(int x, Trace trace) {
            trace.note(12);
            return oddsBody(x, trace) * 2;
        }
    }

    private static class Plain extends Model {
        Plain(int kind, int number, Text text) {
            super(kind, number, text);
        }

        void share(Goods goods, int set, int kind) {
            clearShares();
            int nothing = weighed(NOTHING, kind);
            int sum = sumWeights(goods, set, kind) + nothing;
            for (int thing = 0; thing < goods.count; thing++) {
                if (isIn(thing, set)) {
                    above[thing] = weighed(thing, kind);
                    below[thing] = sum;
                }
            }
            above[NOTHING] = nothing;
            below[NOTHING] = sum;
        }

        int oddsBody(int x, Trace trace) {
            trace.note(20);
            return super.oddsBody(x, trace) ^ 6;
        }
    }

    private static final class Nested extends Plain {
        private final int[] greatest = new int[NESTS];
        private final int[] sums = new int[NESTS];

        Nested(int kind, int number, Text text) {
            super(kind, number, text);
        }

        void share(Goods goods, int set, int kind) {
            clearShares();
            gatherNests(goods, set, kind);
            int nothing = weighed(NOTHING, kind);
            int sum = nothing;
            for (int nest = 0; nest < NESTS; nest++) {
                sum += greatest[nest];
            }
            for (int thing = 0; thing < goods.count; thing++) {
                if (isIn(thing, set)) {
                    int nest = goods.nests[thing];
                    above[thing] = greatest[nest] * weighed(thing, kind);
                    below[thing] = sum * sums[nest];
                }
            }
            above[NOTHING] = nothing;
            below[NOTHING] = sum;
        }

        private void gatherNests(Goods goods, int set, int kind) {
            for (int nest = 0; nest < NESTS; nest++) {
                greatest[nest] = 0;
                sums[nest] = 0;
            }
            for (int thing = 0; thing < goods.count; thing++) {
                if (isIn(thing, set)) {
                    int nest = goods.nests[thing];
                    greatest[nest] = Math.max(greatest[nest], weighed(thing, kind));
                    sums[nest] += weighed(thing, kind);
                }
            }
        }

        int weighsBody(int x, Trace trace) {
            trace.note(30);
            return super.weighsBody(x * 3, trace);
        }

        int tellsBody(int x, Trace trace) {
            trace.note(31);
            return super.tellsBody(x, trace) + oddsBody(1, trace);
        }
    }

    private static final class Mixed extends Plain {
        Mixed(int kind, int number, Text text) {
            super(kind, number, text);
        }

        void share(Goods goods, int set, int kind) {
            long all = text.shares[0] + text.shares[1] + text.shares[2];
            if (all == 0) {
                super.share(goods, set, kind);
                return;
            }
            clearShares();
            // three sums of 350 at most: their product times 27 squares into a long
            long sum0 = sumWeights(goods, set, 0) + weighed(NOTHING, 0);
            long sum1 = sumWeights(goods, set, 1) + weighed(NOTHING, 1);
            long sum2 = sumWeights(goods, set, 2) + weighed(NOTHING, 2);
            long times0 = text.shares[0] * sum1 * sum2;
            long times1 = text.shares[1] * sum0 * sum2;
            long times2 = text.shares[2] * sum0 * sum1;
            for (int option = 0; option < OPTIONS; option++) {
                if (option == NOTHING || isIn(option, set)) {
                    above[option] = times0 * weighed(option, 0) + times1 * weighed(option, 1)
                            + times2 * weighed(option, 2);
                    below[option] = all * sum0 * sum1 * sum2;
                }
            }
        }

        int oddsBody(int x, Trace trace) {
            trace.note(40);
            return -super.oddsBody(x, trace);
        }
    }

    private static final class Looked extends Plain {
        Looked(int kind, int number, Text text) {
            super(kind, number, text);
        }

        void share(Goods goods, int set, int kind) {
            super.share(goods, seenOf(goods, set), kind);
        }

        private int seenOf(Goods goods, int set) {
            int seen = 0;
            for (int i = 0; i < text.look && seen != set; i++) {
                seen |= 1 << goods.mostMarkedOf(set & ~seen);
            }
            return seen & set;
        }

        int oddsBody(int x, Trace trace) {
            trace.note(51);
            return super.oddsBody(x, trace) + super.weighsBody(2, trace);
        }

        int tellsBody(int x, Trace trace) {
            trace.note(50);
            return super.tellsBody(x - text.clauses, trace);
        }
    }

    private static final class Rule extends Model {
        Rule(int kind, int number, Text text) {
            super(kind, number, text);
        }

        void prepare(Goods goods) {
            super.prepare(goods);
            text.runPicks(goods);
        }

        void share(Goods goods, int set, int kind) {
            clearShares();
            above[text.pickFrom(goods, set)] = 1;
        }

        int weighsBody(int x, Trace trace) {
            trace.note(60);
            return super.weighsBody(x, trace) ^ number;
        }

        int tellsBody(int x, Trace trace) {
            trace.note(61);
            return oddsBody(x, trace) - super.tellsBody(x, trace);
        }
    }

    /**
     * The ORDERS that agree with some choices. They are never listed: each choice asks
     * that one stands ahead of others, so sets of the first ones placed are enough.
     * NOTHING has the slot behind the last THING.
     */
    private static final class Orders {
        private static final int SLOTS = MOST_THINGS + 1;

        private int slots = 1;
        private final int[] ahead = new int[SLOTS];
        private final int[] firsts = new int[MOST_CHOICES];
        private final int[] rivals = new int[MOST_CHOICES];
        private int required;
        private final int[] ways = new int[1 << SLOTS];
        private final int[] rests = new int[1 << SLOTS];
        private final int[] takes = new int[SLOTS];

        Orders() {
        }

        void clear(int things) {
            slots = things + 1;
            required = 0;
            for (int slot = 0; slot < SLOTS; slot++) {
                ahead[slot] = 0;
            }
        }

        void require(int set, int option) {
            int first = option == NOTHING ? slots - 1 : option;
            int others = withNothing(set) & ~(1 << first);
            if (required < firsts.length) {
                firsts[required] = first;
                rivals[required] = others;
                required++;
            }
            for (int slot = 0; slot < slots; slot++) {
                if (isIn(slot, others)) {
                    ahead[slot] |= 1 << first;
                }
            }
        }

        private int withNothing(int set) {
            return set | 1 << slots - 1;
        }

        private boolean mayFollow(int slot, int placed) {
            return !isIn(slot, placed) && (ahead[slot] & ~placed) == 0;
        }

        /** Also makes the ways to each set of first ones, which countTakes() needs. */
        int countAgreeing() {
            int all = (1 << slots) - 1;
            for (int placed = 0; placed <= all; placed++) {
                ways[placed] = 0;
            }
            ways[0] = 1;
            for (int placed = 0; placed < all; placed++) {
                for (int slot = 0; slot < slots && ways[placed] > 0; slot++) {
                    if (mayFollow(slot, placed)) {
                        ways[placed | 1 << slot] += ways[placed];
                    }
                }
            }
            countRests(all);
            return ways[all];
        }

        private void countRests(int all) {
            rests[all] = 1;
            for (int placed = all - 1; placed >= 0; placed--) {
                rests[placed] = 0;
                for (int slot = 0; slot < slots && ways[placed] > 0; slot++) {
                    if (mayFollow(slot, placed)) {
                        rests[placed] += rests[placed | 1 << slot];
                    }
                }
            }
        }

        /** For each slot how many agreeing ORDERS take it from a SET. */
        void countTakes(int set) {
            int open = withNothing(set);
            int all = (1 << slots) - 1;
            for (int slot = 0; slot < slots; slot++) {
                takes[slot] = 0;
            }
            for (int placed = 0; placed < all; placed++) {
                if ((placed & open) != 0 || ways[placed] == 0) {
                    continue;
                }
                for (int slot = 0; slot < slots; slot++) {
                    if (isIn(slot, open) && mayFollow(slot, placed)) {
                        takes[slot] += ways[placed] * rests[placed | 1 << slot];
                    }
                }
            }
        }

        int mostTakes() {
            int most = 0;
            for (int slot = 0; slot < slots; slot++) {
                most = Math.max(most, takes[slot]);
            }
            return most;
        }

        int takenBits() {
            int bits = 0;
            for (int slot = 0; slot < slots; slot++) {
                if (takes[slot] > 0) {
                    bits |= 1 << (slot == slots - 1 ? NOTHING : slot);
                }
            }
            return bits;
        }

        /** The fewest of the choices with which some ORDER does not agree. */
        int fewestBroken() {
            int all = (1 << slots) - 1;
            // the rows of the counts serve here too: they are made anew by each count
            int[] least = ways;
            int[] broken = takes;
            for (int placed = 0; placed <= all; placed++) {
                least[placed] = MOST_CHOICES;
            }
            least[0] = 0;
            for (int placed = 0; placed < all; placed++) {
                countBroken(placed, broken);
                for (int slot = 0; slot < slots; slot++) {
                    if (!isIn(slot, placed)) {
                        int then = placed | 1 << slot;
                        least[then] = Math.min(least[then], least[placed] + broken[slot]);
                    }
                }
            }
            return least[all];
        }

        /** For each slot how many choices break, if it comes next behind those placed. */
        private void countBroken(int placed, int[] broken) {
            for (int slot = 0; slot < slots; slot++) {
                broken[slot] = 0;
            }
            for (int i = 0; i < required; i++) {
                if ((rivals[i] & placed) != 0) {
                    broken[firsts[i]]++;
                }
            }
        }
    }

    /** The bodies that ran in the latest act. */
    private static final class Trace {
        private static final int MOST_KEPT = 20;

        final int[] bodies = new int[MOST_KEPT];
        int ran;

        Trace() {
        }

        void clear() {
            ran = 0;
        }

        void note(int body) {
            if (ran < MOST_KEPT) {
                bodies[ran] = body;
            }
            ran++;
        }

        int kept() {
            return Math.min(ran, MOST_KEPT);
        }
    }
}
