import java.math.BigInteger;
import java.util.ArrayList;
import java.util.Arrays;
import java.util.Comparator;
import java.util.List;
import java.util.Random;
import java.util.function.Function;
import java.util.regex.Matcher;
import java.util.regex.Pattern;

/**
 * Long runs of mixed calls, each answer beside that of a second program, which lists all
 * orders, counts with exact fractions and reads texts by a pattern.
 */
public final class OracleRuns {
    private static final int RUNS = 700, CALLS = 470;
    private static int wrong = 0;

    public static void main(String[] args) {
        for (int run = 0; run < RUNS && wrong < 20; run++) {
            new OracleRuns(run).play();
        }
        System.out.println(wrong == 0 ? "all answers are those of the oracle" : wrong + " runs go wrong");
        System.exit(wrong == 0 ? 0 : 1);
    }

    private final int run;
    private final Random random;
    private final WhyChosen x = new WhyChosen();
    private final Oracle o = new Oracle();
    private final List<String> calls = new ArrayList<>();

    private OracleRuns(int run) {
        this.run = run;
        this.random = new Random(run);
    }

    private boolean chance(int percent) {
        return random.nextInt(100) < percent;
    }

    private int upTo(int most) {
        return random.nextInt(most + 1);
    }

    /** Mostly 0 .. most, now and then beside it or far off. */
    private int about(int most) {
        int sort = random.nextInt(60);
        if (sort == 0) {
            return -1;
        }
        if (sort == 1) {
            return most + 1;
        }
        if (sort == 2) {
            int[] far = {Integer.MIN_VALUE, Integer.MAX_VALUE, -2, 64, 128, 1 << 30, -1 << 31, 255, 256, 31, 32, 33};
            return far[random.nextInt(far.length)];
        }
        return upTo(Math.max(0, most));
    }

    private int thingNumber() {
        return about(o.things.size() - 1);
    }

    private int takerNumber() {
        return about(Math.min(o.takers.size() - 1, run % 4 == 0 ? 1 : 15));
    }

    private int modelNumber() {
        return about(o.models.size() - 1);
    }

    private int set() {
        return about((1 << o.things.size()) - 1);
    }

    private int setWith(int thing) {
        int set = set();
        return chance(90) && thing >= 0 && thing < 6 ? set | 1 << thing : set;
    }

    private void play() {
        int things = run % 11 == 0 ? upTo(6) : 3 + upTo(3);
        for (int i = 0; i < things; i++) {
            call(0);
        }
        for (int i = 0; i < 1 + upTo(4); i++) {
            call(2);
        }
        int bias = run % 5;
        while (calls.size() < CALLS && wrong < 20) {
            int kind = random.nextInt(46);
            if (kind >= 37) {
                kind = bias == 0 ? 3 : bias == 1 ? 7 : bias == 2 ? 31 : bias == 3 ? 19 : kind - 30;
            }
            if (!call(kind)) {
                wrong++;
                System.out.println("run " + run + " goes wrong:");
                for (String told : calls.subList(Math.max(0, calls.size() - 12), calls.size())) {
                    System.out.println("  " + told);
                }
                return;
            }
        }
    }

    private boolean same(String call, long got, long want) {
        calls.add(call + " answered " + got + ", the oracle " + want);
        return got == want;
    }

    private boolean call(int kind) {
        switch (kind) {
            case 0: {
                int marks = chance(50) ? about(255) : upTo(7);
                int price = chance(50) ? about(99) : upTo(6);
                int nest = about(3);
                return same("thing(" + marks + ", " + price + ", " + nest + ")", x.thing(marks, price, nest), o.thing(marks, price, nest));
            }
            case 1: {
                int thing = thingNumber();
                int n = about(99);
                return same("price(" + thing + ", " + n + ")", x.price(thing, n), o.price(thing, n));
            }
            case 2: {
                int k = about(2);
                return same("taker(" + k + ")", x.taker(k), o.taker(k));
            }
            case 3: {
                int taker = takerNumber();
                int set = set();
                int taken = chance(15) ? -1 : thingNumber();
                if (chance(70) && taken >= 0 && taken < 6) {
                    set |= 1 << taken;
                }
                return same("choice(" + taker + ", " + set + ", " + taken + ")", x.choice(taker, set, taken), o.choice(taker, set, taken));
            }
            case 4: {
                int choice = about(o.choices.size() - 1);
                int as = about(2);
                return same("put(" + choice + ", " + as + ")", x.put(choice, as), o.put(choice, as));
            }
            case 5: {
                int choice = about(o.choices.size() - 1);
                int what = about(3);
                return same("of(" + choice + ", " + what + ")", x.of(choice, what), o.of(choice, what));
            }
            case 6: {
                int bytes = random.nextInt();
                int n = about(4);
                return same("feed(" + bytes + ", " + n + ")", x.feed(bytes, n), o.feed(bytes, n));
            }
            case 7:
                return tellModel();
            case 8: {
                int k = about(5);
                return same("model(" + k + ")", x.model(k), o.model(k));
            }
            default:
                return kind < 20 ? ofModelsAndOrders(kind) : kind < 28 ? ofAskingAndLaid(kind) : ofActsAndTapes(kind);
        }
    }

    private boolean ofModelsAndOrders(int kind) {
        int m = modelNumber();
        int thing = chance(15) ? 7 : thingNumber();
        int a = takerNumber();
        int b = takerNumber();
        int set = setWith(thing);
        int two = about(1);
        switch (kind) {
            case 9: {
                int k = about(2);
                return same("weight(" + m + ", " + thing + ", " + k + ")", x.weight(m, thing, k), o.weight(m, thing, k));
            }
            case 10:
            case 19: {
                int k = about(2);
                String call = "odds(" + m + ", " + thing + ", " + set + ", " + k + ", ";
                return same(call + "0)", x.odds(m, thing, set, k, 0), o.odds(m, thing, set, k, 0))
                    & same(call + two + ")", x.odds(m, thing, set, k, two), o.odds(m, thing, set, k, two));
            }
            case 11:
                return same("score(" + m + ", " + two + ")", x.score(m, two), o.score(m, two));
            case 12:
                return same("misses(" + m + ", " + two + ")", x.misses(m, two), o.misses(m, two));
            case 13:
                return same("grid(" + m + ", " + thing + ")", x.grid(m, thing), o.grid(m, thing));
            case 14: {
                int to = modelNumber();
                return same("which(" + m + ", " + to + ")", x.which(m, to), o.which(m, to));
            }
            case 15:
                return same("agree(" + a + ")", x.agree(a), o.agree(a));
            case 16:
                return same("letgo(" + a + ")", x.letgo(a), o.letgo(a));
            case 17:
                return same("like(" + a + ", " + b + ")", x.like(a, b), o.like(a, b));
            default:
                return same("would(" + a + ", " + set + ")", x.would(a, set), o.would(a, set))
                    & same("must(" + thing + ", " + set + ", " + two + ")", x.must(thing, set, two), o.must(thing, set, two));
        }
    }

    private boolean ofAskingAndLaid(int kind) {
        int m = modelNumber();
        int a = thingNumber();
        int b = thingNumber();
        int set = chance(70) ? setWith(a) : set();
        switch (kind) {
            case 20:
                return same("ask(" + set + ")", x.ask(set), o.ask(set));
            case 21: {
                int taker = takerNumber();
                if (o.asks.isEmpty() && taker < 0) {
                    return true;
                }
                return same("next(" + taker + ")", x.next(taker), o.next(taker));
            }
            case 22:
                return same("silly(" + set + ")", x.silly(set), o.silly(set));
            case 23: {
                int choice = about(o.choices.size() - 1);
                return same("could(" + choice + ")", x.could(choice), o.could(choice));
            }
            case 24: {
                int what = about(4);
                return same("away(" + a + ", " + b + ", " + what + ")", x.away(a, b, what), o.away(a, b, what));
            }
            case 25:
                return same("coin(" + m + ", " + set + ")", x.coin(m, set), o.coin(m, set));
            case 26: {
                int n = about(6);
                return same("lay(" + m + ", " + n + ")", x.lay(m, n), o.lay(m, n));
            }
            default: {
                int than = set();
                return same("best(" + m + ", " + a + ", " + set + ")", x.best(m, a, set), o.best(m, a, set))
                    & same("worse(" + m + ", " + set + ", " + than + ")", x.worse(m, set, than), o.worse(m, set, than));
            }
        }
    }

    private boolean ofActsAndTapes(int kind) {
        int tape = chance(60) ? upTo(1) : about(5);
        int i = chance(70) ? upTo(5) : about(59);
        switch (kind) {
            case 28: {
                int m = modelNumber();
                int act = about(2);
                int arg = chance(80) ? upTo(20) - 10 : random.nextInt();
                boolean good = same("act(" + m + ", " + act + ", " + arg + ")", x.act(m, act, arg), o.act(m, act, arg));
                for (int k = 0; k < 3; k++) {
                    int place = about(12);
                    good &= same("trace(" + place + ")", x.trace(place), o.trace(place));
                }
                return good & same("count(7)", x.count(7), o.count(7));
            }
            case 29: {
                int m = modelNumber();
                int k = about(5);
                return same("taken(" + m + ", " + k + ")", x.taken(m, k), o.taken(m, k));
            }
            case 30: {
                int n = 1 + about(19);
                int taker = takerNumber();
                return same("sheet(" + tape + ", " + i + ", " + n + ", " + taker + ")", x.sheet(tape, i, n, taker), o.sheet(tape, i, n, taker));
            }
            case 31: {
                int what = about(7);
                return same("count(" + what + ")", x.count(what), o.count(what));
            }
            case 32: {
                int sort = chance(50) ? 3 : upTo(5) - 1;
                int n = chance(80) ? upTo(8) : about(60);
                return same("tape(" + tape + ", " + sort + ", " + n + ")", x.tape(tape, sort, n), o.tape(tape, sort, n));
            }
            case 33:
            case 34: {
                long v = chance(20) ? random.nextLong() : 100L * set() + upTo(o.things.size());
                return same("item(" + tape + ", " + i + ", " + v + ")", x.item(tape, i, v), o.item(tape, i, v));
            }
            case 35:
                return same("read(" + tape + ", " + i + ")", x.read(tape, i), o.read(tape, i));
            default: {
                int other = chance(60) ? upTo(1) : about(5);
                int j = chance(70) ? upTo(5) : about(59);
                int n = chance(80) ? upTo(4) : about(60);
                String call = "shift(" + tape + ", " + i + ", " + other + ", " + j + ", " + n + ")";
                return same(call, x.shift(tape, i, other, j, n), o.shift(tape, i, other, j, n));
            }
        }
    }

    private boolean tellModel() {
        String text = text();
        boolean good = true;
        for (int from = 0; from < text.length() && good; from += 4) {
            int bytes = 0;
            int n = Math.min(4, text.length() - from);
            for (int i = 0; i < n; i++) {
                bytes = bytes << 8 | text.charAt(from + i);
            }
            good = same("feed(" + bytes + ", " + n + ")", x.feed(bytes, n), o.feed(bytes, n));
        }
        int k = chance(90) ? upTo(5) : about(5);
        return good && same("model(" + k + ") of " + o.text, x.model(k), o.model(k));
    }

    private String text() {
        StringBuilder text = new StringBuilder(clause());
        while (chance(60)) {
            text.append(';').append(clause());
        }
        if (chance(30)) {
            int place = random.nextInt(text.length());
            String signs = ";wmnlkp 0123456789=<>|&!()tx\u00ff";
            char sign = signs.charAt(random.nextInt(signs.length()));
            if (chance(40)) {
                text.setCharAt(place, sign);
            } else if (chance(50)) {
                text.insert(place, sign);
            } else {
                text.setLength(place);
            }
        }
        return text.toString();
    }

    private String clause() {
        int n = chance(50) ? upTo(9) : chance(70) ? upTo(60) : upTo(1000);
        switch (random.nextInt(8)) {
            case 0:
                return "worth " + about(5) + " " + n;
            case 1:
                return "mark " + about(7) + " " + upTo(20);
            case 2:
                return "price " + upTo(9);
            case 3:
                return "none " + n;
            case 4:
                return "look " + (1 + about(5));
            case 5:
                return "kind " + upTo(2) + " " + about(9) + " " + upTo(6);
            default:
                return "pick " + any(0);
        }
    }

    private String any(int depth) {
        String text = one(depth);
        while (chance(35)) {
            text += (chance(50) ? "&" : "|") + one(depth);
        }
        return text;
    }

    private String one(int depth) {
        if (depth < 5 && chance(25)) {
            return chance(50) ? "!" + one(depth + 1) : "(" + any(depth + 1) + ")";
        }
        if (chance(40)) {
            return "p" + "<=>".charAt(upTo(2)) + upTo(chance(50) ? 9 : 99);
        }
        return "mtn".charAt(upTo(2)) + "=" + upTo(chance(80) ? 4 : 9);
    }

    /** A fraction that is never rounded. */
    private record Part(BigInteger above, BigInteger below) {
        static Part of(long above, long below) {
            return new Part(BigInteger.valueOf(above), BigInteger.valueOf(below)).least();
        }

        Part least() {
            BigInteger common = above.gcd(below);
            return new Part(above.divide(common), below.divide(common));
        }

        Part times(Part other) {
            return new Part(above.multiply(other.above), below.multiply(other.below)).least();
        }

        Part plus(Part other) {
            return new Part(above.multiply(other.below).add(other.above.multiply(below)), below.multiply(other.below)).least();
        }

        int thousandths() {
            return above.multiply(BigInteger.valueOf(1000)).divide(below).intValueExact();
        }

        boolean over(Part other) {
            return above.multiply(other.below).compareTo(other.above.multiply(below)) > 0;
        }
    }

    private static final class Thing {
        int marks;
        int price;
        int nest;
    }

    private static final class Choice {
        int taker;
        int set;
        int taken;
        int put;
    }

    private static final class Model {
        int kind;
        int number;
        List<String> clauses;
    }

    private static final class Oracle {
        static final int NONE = -1, BAD = -2, STATE = -3, FULL = -4;
        static final long NO = Long.MIN_VALUE;
        static final Part ZERO = Part.of(0, 1), ONE = Part.of(1, 1);
        static final Pattern TEXT = Pattern.compile(textPattern());
        static final List<List<int[]>> ORDERS = allOrders();

        final List<Thing> things = new ArrayList<>();
        final List<Integer> takers = new ArrayList<>();
        final List<Choice> choices = new ArrayList<>();
        final List<Model> models = new ArrayList<>();
        final List<Integer> asks = new ArrayList<>();
        final List<Integer> ran = new ArrayList<>();
        final Object[] tapes = new Object[6];
        String text = "";

        static String textPattern() {
            String one = "(?:[mtn]=[0-9]|p[<=>][0-9]{1,3})";
            String test = one;
            for (int depth = 0; depth < 4; depth++) {
                String any = one + "(?:[&|]" + one + ")*";
                one = "(?:" + test + "|!" + one + "|\\(" + any + "\\))";
            }
            String pick = one + "(?:[&|]" + one + ")*";
            String clause = "(?:worth [0-5] [0-9]{1,3}|mark [0-7] [0-9]{1,3}|price [0-9]{1,3}|none [0-9]{1,3}"
                + "|look [1-9]|kind [0-2] [0-9] [0-9]{1,3}|pick " + pick + ")";
            return clause + "(?:;" + clause + "){0,9}";
        }

        /** For 0 .. 6 things each order as the places of the things and, last, of nothing. */
        static List<List<int[]>> allOrders() {
            List<List<int[]>> all = new ArrayList<>();
            for (int n = 0; n <= 6; n++) {
                List<int[]> orders = new ArrayList<>();
                addOrders(orders, new int[n + 1], 0, 0);
                all.add(orders);
            }
            return all;
        }

        static void addOrders(List<int[]> orders, int[] places, int item, int used) {
            if (item == places.length) {
                orders.add(places.clone());
                return;
            }
            for (int place = 0; place < places.length; place++) {
                if ((used >> place & 1) == 0) {
                    places[item] = place;
                    addOrders(orders, places, item + 1, used | 1 << place);
                }
            }
        }

        boolean has(int thing) {
            return thing >= 0 && thing < things.size();
        }

        boolean hasTaker(int taker) {
            return taker >= 0 && taker < takers.size();
        }

        boolean hasModel(int model) {
            return model >= 0 && model < models.size();
        }

        boolean hasChoice(int choice) {
            return choice >= 0 && choice < choices.size();
        }

        boolean isSet(int set) {
            return set >= 0 && set < 1 << things.size();
        }

        List<Integer> members(int set) {
            List<Integer> members = new ArrayList<>();
            for (int i = 0; i < 8; i++) {
                if ((set & 1 << i) != 0) {
                    members.add(i);
                }
            }
            return members;
        }

        int thing(int marks, int price, int nest) {
            if (marks < 0 || marks > 255 || price < 0 || price > 99 || nest < 0 || nest > 3) {
                return BAD;
            }
            if (choices.size() + asks.size() > 0) {
                return STATE;
            }
            if (things.size() == 6) {
                return FULL;
            }
            Thing thing = new Thing();
            thing.marks = marks;
            thing.price = price;
            thing.nest = nest;
            things.add(thing);
            return things.size() - 1;
        }

        int price(int thing, int n) {
            if (!has(thing)) {
                return NONE;
            }
            if (n < 0 || n > 99) {
                return BAD;
            }
            int was = things.get(thing).price;
            things.get(thing).price = n;
            return was;
        }

        int taker(int kind) {
            if (kind < 0 || kind > 2) {
                return BAD;
            }
            if (takers.size() == 16) {
                return FULL;
            }
            takers.add(kind);
            return takers.size() - 1;
        }

        int choice(int taker, int set, int taken) {
            if (!hasTaker(taker)) {
                return NONE;
            }
            if (!isSet(set) || set == 0 || taken != -1 && !members(set).contains(taken)) {
                return BAD;
            }
            if (choices.size() == 80) {
                return FULL;
            }
            Choice choice = new Choice();
            choice.taker = taker;
            choice.set = set;
            choice.taken = taken;
            choices.add(choice);
            return choices.size() - 1;
        }

        int put(int choice, int as) {
            if (!hasChoice(choice)) {
                return NONE;
            }
            if (as < 0 || as > 2) {
                return BAD;
            }
            int was = choices.get(choice).put;
            choices.get(choice).put = as;
            return was;
        }

        int of(int choice, int what) {
            if (!hasChoice(choice) || what < 0 || what > 3) {
                return NONE;
            }
            Choice c = choices.get(choice);
            return new int[] {c.taker, c.set, c.taken == -1 ? -5 : c.taken, c.put}[what];
        }

        int feed(int bytes, int n) {
            if (n < 0 || n > 4) {
                return BAD;
            }
            if (text.length() + n > 120) {
                return FULL;
            }
            for (int i = 0; i < n; i++) {
                text += (char) ((bytes >> 8 * (n - 1 - i)) & 0xff);
            }
            return text.length();
        }

        int model(int kind) {
            if (kind < 0 || kind > 5) {
                return NONE;
            }
            if (models.size() == 10) {
                return FULL;
            }
            String read = text;
            text = "";
            Matcher matcher = TEXT.matcher(read);
            if (!matcher.matches()) {
                for (int place = 0; place < read.length(); place++) {
                    Matcher begun = TEXT.matcher(read.substring(0, place + 1));
                    if (!begun.matches() && !begun.hitEnd()) {
                        return -10 - place;
                    }
                }
                return -10 - read.length();
            }
            Model model = new Model();
            model.kind = kind;
            model.number = models.size();
            model.clauses = new ArrayList<>(Arrays.asList(read.split(";")));
            models.add(model);
            return model.number;
        }

        /** The last number told behind some words; without them another one. */
        static int told(Model m, String words, int without) {
            int n = without;
            for (String clause : m.clauses) {
                if (clause.startsWith(words + " ")) {
                    n = Integer.parseInt(clause.substring(words.length() + 1));
                }
            }
            return n;
        }

        /** Part 1 (share) or 2 (times) of the last clause of a kind. */
        static int toldOfKind(Model m, int kind, int part, int without) {
            int n = without;
            for (String clause : m.clauses) {
                String[] parts = clause.split(" ");
                if (parts[0].equals("kind") && parts[1].equals("" + kind)) {
                    n = Integer.parseInt(parts[part + 1]);
                }
            }
            return n;
        }

        int weightOf(Model m, int thing, int kind) {
            if (thing == 7) {
                return Math.min(50, told(m, "none", 0));
            }
            Thing t = things.get(thing);
            int weight = told(m, "worth " + thing, 10);
            for (int mark : members(t.marks)) {
                weight += told(m, "mark " + mark, 0);
            }
            weight -= told(m, "price", 0) * t.price / 10;
            if (weight < 1) {
                weight = 1;
            }
            if (thing % 3 == kind) {
                weight *= Math.max(1, toldOfKind(m, kind, 2, 1));
            }
            return Math.min(50, weight);
        }

        int weight(int model, int thing, int kind) {
            if (!hasModel(model) || !has(thing) && thing != 7 || kind < 0 || kind > 2) {
                return NONE;
            }
            return weightOf(models.get(model), thing, kind);
        }

        int sum(Model m, List<Integer> these, int kind) {
            int sum = 0;
            for (int thing : these) {
                sum += weightOf(m, thing, kind);
            }
            return sum;
        }

        Part plain(Model m, int thing, int set, int kind) {
            if (thing != 7 && (set >> thing & 1) == 0) {
                return ZERO;
            }
            return Part.of(weightOf(m, thing, kind), sum(m, members(set), kind) + weightOf(m, 7, kind));
        }

        int ofNest(int set, int nest) {
            int mates = 0;
            for (int thing : members(set)) {
                if (things.get(thing).nest == nest) {
                    mates |= 1 << thing;
                }
            }
            return mates;
        }

        int greatest(Model m, int set, int kind) {
            int greatest = 0;
            for (int thing : members(set)) {
                greatest = Math.max(greatest, weightOf(m, thing, kind));
            }
            return greatest;
        }

        Part nested(Model m, int thing, int set, int kind) {
            int sum = weightOf(m, 7, kind);
            for (int nest = 0; nest < 4; nest++) {
                sum += greatest(m, ofNest(set, nest), kind);
            }
            if (thing == 7) {
                return Part.of(weightOf(m, 7, kind), sum);
            }
            int mates = ofNest(set, things.get(thing).nest);
            return Part.of(greatest(m, mates, kind), sum).times(Part.of(weightOf(m, thing, kind), sum(m, members(mates), kind)));
        }

        Part mixed(Model m, int thing, int set, int kind) {
            int all = 0;
            for (int k = 0; k < 3; k++) {
                all += toldOfKind(m, k, 1, 0);
            }
            if (all == 0) {
                return plain(m, thing, set, kind);
            }
            Part sum = ZERO;
            for (int k = 0; k < 3; k++) {
                sum = sum.plus(plain(m, thing, set, k).times(Part.of(toldOfKind(m, k, 1, 0), all)));
            }
            return sum;
        }

        int seen(Model m, int set) {
            List<Integer> these = members(set);
            these.sort(Comparator.comparingInt(thing -> 100 * (8 - Integer.bitCount(things.get(thing).marks)) + thing));
            int seen = 0;
            for (int i = 0; i < Math.min(these.size(), told(m, "look", 99)); i++) {
                seen |= 1 << these.get(i);
            }
            return seen;
        }

        int picked(Model m, int set) {
            for (String clause : m.clauses) {
                if (!clause.startsWith("pick ")) {
                    continue;
                }
                int best = 7;
                for (int thing : members(set)) {
                    boolean holds = new Reading(clause.substring(5), thing, things.get(thing)).any();
                    if (holds && (best == 7 || things.get(thing).price < things.get(best).price)) {
                        best = thing;
                    }
                }
                if (best != 7) {
                    return best;
                }
            }
            return 7;
        }

        Part oddsOf(Model m, int thing, int set, int kind) {
            if (thing != 7 && (set >> thing & 1) == 0) {
                return ZERO;
            }
            switch (m.kind) {
                case 0:
                    return thing == 7 ? ZERO : Part.of(1, members(set).size());
                case 1:
                    return plain(m, thing, set, kind);
                case 2:
                    return nested(m, thing, set, kind);
                case 3:
                    return mixed(m, thing, set, kind);
                case 4:
                    return plain(m, thing, seen(m, set), kind);
                default:
                    return picked(m, set) == thing ? ONE : ZERO;
            }
        }

        long odds(int model, int thing, int set, int kind, int part) {
            if (!hasModel(model) || !has(thing) && thing != 7 || kind < 0 || kind > 2 || part < 0 || part > 1 || !isSet(set) || set == 0) {
                return NO;
            }
            Part odds = oddsOf(models.get(model), thing, set, kind);
            return (part == 0 ? odds.above() : odds.below()).longValueExact();
        }

        Part oddsOfTaken(Model m, Choice c) {
            return oddsOf(m, c.taken == -1 ? 7 : c.taken, c.set, takers.get(c.taker));
        }

        int scoreOf(Model m, int as) {
            int sum = 0;
            for (Choice c : choices) {
                sum += c.put == as ? oddsOfTaken(m, c).thousandths() : 0;
            }
            return sum;
        }

        int missesOf(Model m, int as) {
            int sum = 0;
            for (Choice c : choices) {
                boolean missed = false;
                for (int other : members(c.set | 128)) {
                    missed |= oddsOf(m, other, c.set, takers.get(c.taker)).over(oddsOfTaken(m, c));
                }
                sum += c.put == as && missed ? 1 : 0;
            }
            return sum;
        }

        int score(int model, int as) {
            return !hasModel(model) || as < 0 || as > 1 ? NONE : scoreOf(models.get(model), as);
        }

        int misses(int model, int as) {
            return !hasModel(model) || as < 0 || as > 1 ? NONE : missesOf(models.get(model), as);
        }

        int grid(int model, int thing) {
            if (!hasModel(model) || !has(thing)) {
                return NONE;
            }
            Model m = models.get(model);
            int best = 0;
            int most = -1;
            for (int worth = 1; worth <= 30; worth++) {
                Model trial = new Model();
                trial.kind = m.kind;
                trial.clauses = new ArrayList<>(m.clauses);
                trial.clauses.add("worth " + thing + " " + worth);
                int score = scoreOf(trial, 0);
                if (score > most) {
                    most = score;
                    best = worth;
                }
            }
            return best;
        }

        int which(int a, int b) {
            if (!hasModel(a) || !hasModel(b) || a > b) {
                return NONE;
            }
            List<Model> these = new ArrayList<>(models.subList(a, b + 1));
            these.sort(Comparator.comparingInt((Model m) -> -scoreOf(m, 1)).thenComparingInt(m -> missesOf(m, 1)).thenComparingInt(m -> m.number));
            return these.get(0).number;
        }

        boolean agrees(int[] order, Choice c) {
            int nothing = things.size();
            int taken = c.taken == -1 ? nothing : c.taken;
            for (int other = 0; other <= nothing; other++) {
                boolean there = other == nothing || (c.set >> other & 1) != 0;
                if (there && other != taken && order[other] < order[taken]) {
                    return false;
                }
            }
            return true;
        }

        List<int[]> agreeing(int... these) {
            List<int[]> orders = new ArrayList<>(ORDERS.get(things.size()));
            for (int taker : these) {
                for (Choice c : choices) {
                    if (c.taker == taker && c.put == 0) {
                        orders.removeIf(order -> !agrees(order, c));
                    }
                }
            }
            return orders;
        }

        int agree(int taker) {
            return hasTaker(taker) ? agreeing(taker).size() : NONE;
        }

        int letgo(int taker) {
            if (!hasTaker(taker)) {
                return NONE;
            }
            int fewest = 99;
            for (int[] order : ORDERS.get(things.size())) {
                int broken = 0;
                for (Choice c : choices) {
                    broken += c.taker == taker && c.put == 0 && !agrees(order, c) ? 1 : 0;
                }
                fewest = Math.min(fewest, broken);
            }
            return fewest;
        }

        int like(int a, int b) {
            if (!hasTaker(a) || !hasTaker(b)) {
                return NONE;
            }
            if (a == b) {
                return BAD;
            }
            return agreeing(a, b).isEmpty() ? 0 : 1;
        }

        /** How many agreeing orders take each thing (7: nothing) from a set. */
        int[] takes(int taker, int set) {
            int[] takes = new int[8];
            for (int[] order : agreeing(taker)) {
                int first = 7;
                int place = order[things.size()];
                for (int thing : members(set)) {
                    if (order[thing] < place) {
                        first = thing;
                        place = order[thing];
                    }
                }
                takes[first]++;
            }
            return takes;
        }

        int wouldOf(int taker, int set) {
            int[] takes = takes(taker, set);
            int bits = 0;
            for (int i = 0; i < 8; i++) {
                bits |= takes[i] > 0 ? 1 << i : 0;
            }
            return bits;
        }

        int would(int taker, int set) {
            if (!hasTaker(taker)) {
                return NONE;
            }
            return !isSet(set) || set == 0 ? BAD : wouldOf(taker, set);
        }

        int must(int thing, int set, int what) {
            if (!has(thing) || what < 0 || what > 1) {
                return NONE;
            }
            if (!isSet(set) || !members(set).contains(thing)) {
                return BAD;
            }
            int sum = 0;
            for (int taker = 0; taker < takers.size(); taker++) {
                List<Integer> could = members(wouldOf(taker, set));
                sum += could.contains(thing) && (what == 1 || could.size() == 1) ? 1 : 0;
            }
            return sum;
        }

        int ask(int set) {
            if (!isSet(set) || set == 0) {
                return BAD;
            }
            if (asks.size() == 10) {
                return FULL;
            }
            asks.add(set);
            return asks.size() - 1;
        }

        int next(int taker) {
            if (!hasTaker(taker)) {
                return NONE;
            }
            if (asks.isEmpty() || agreeing(taker).isEmpty()) {
                return -5;
            }
            int best = 0;
            int least = 9999;
            for (int i = 0; i < asks.size(); i++) {
                int most = Arrays.stream(takes(taker, asks.get(i))).max().getAsInt();
                if (most < least) {
                    least = most;
                    best = i;
                }
            }
            return best;
        }

        int silly(int set) {
            if (!isSet(set)) {
                return BAD;
            }
            List<Integer> these = members(set);
            if (these.size() < 2) {
                return 0;
            }
            for (int one : these) {
                Thing a = things.get(one);
                if (these.stream().map(things::get).allMatch(b -> (a.marks | b.marks) == a.marks && a.price <= b.price)) {
                    return 1;
                }
            }
            return 0;
        }

        int could(int choice) {
            if (!hasChoice(choice)) {
                return NONE;
            }
            List<Integer> all = members(choices.get(choice).set);
            return (int) asks.stream().filter(set -> members(set).containsAll(all)).count();
        }

        int away(int a, int b, int what) {
            if (!has(a) || !has(b) || what < 0 || what > 4) {
                return NONE;
            }
            if (a == b) {
                return BAD;
            }
            int[] n = new int[4];
            for (Choice c : choices) {
                if (c.put == 0 && members(c.set).contains(a)) {
                    int from = members(c.set).contains(b) ? 0 : 2;
                    n[from] += c.taken == a ? 1 : 0;
                    n[from + 1]++;
                }
            }
            if (what < 4) {
                return n[what];
            }
            if (n[1] == 0 || n[3] == 0) {
                return -6;
            }
            Part with = Part.of(n[0], n[1]);
            Part without = Part.of(n[2], n[3]);
            return without.over(with) ? 1 : with.over(without) ? -5 : 0;
        }

        long coinOf(Model m, int set) {
            long sum = 0;
            for (int kind : takers) {
                for (int thing : members(set)) {
                    sum += things.get(thing).price * oddsOf(m, thing, set, kind).thousandths();
                }
            }
            return sum;
        }

        long coin(int model, int set) {
            return !hasModel(model) || !isSet(set) ? NO : coinOf(models.get(model), set);
        }

        int lay(int model, int n) {
            if (!hasModel(model)) {
                return NONE;
            }
            if (n < 0 || n > 6) {
                return BAD;
            }
            List<long[]> sets = new ArrayList<>();
            for (int set = 0; isSet(set); set++) {
                if (members(set).size() <= n) {
                    sets.add(new long[] {-coinOf(models.get(model), set), members(set).size(), set});
                }
            }
            sets.sort(Arrays::compare);
            return (int) sets.get(0)[2];
        }

        int best(int model, int thing, int set) {
            if (!hasModel(model) || !has(thing)) {
                return NONE;
            }
            if (!isSet(set) || !members(set).contains(thing)) {
                return BAD;
            }
            Thing t = things.get(thing);
            int was = t.price;
            int best = 0;
            long most = -1;
            for (int price = 0; price < 100; price++) {
                t.price = price;
                long coin = coinOf(models.get(model), set);
                if (coin > most) {
                    most = coin;
                    best = price;
                }
            }
            t.price = was;
            return best;
        }

        int worse(int model, int set, int than) {
            if (!hasModel(model)) {
                return NONE;
            }
            if (!isSet(set) || !isSet(than)) {
                return BAD;
            }
            Model m = models.get(model);
            return (int) takers.stream().filter(kind -> greatest(m, set, kind) < greatest(m, than, kind)).count();
        }

        static final int[] ABOVE = {-1, 0, 1, 1, 1, 0};
        // the numbers of the bodies: kind by act (0 weighs, 1 odds, 2 tells)
        static final int[][] BODIES = {{10, 11, 12}, {0, 20, 0}, {30, 0, 31}, {0, 40, 0}, {0, 51, 50}, {60, 0, 61}};

        /** Runs the body of an act that stands first from a kind on upwards. */
        int run(Model m, int from, int act, int x) {
            int kind = from;
            while (BODIES[kind][act] == 0) {
                kind = ABOVE[kind];
            }
            int up = ABOVE[kind];
            int c = m.clauses.size();
            int i = m.number;
            ran.add(BODIES[kind][act]);
            switch (BODIES[kind][act]) {
                case 10:
                    return x + c;
                case 11:
                    return run(m, m.kind, 0, x) - i;
                case 12:
                    return run(m, m.kind, 1, x) * 2;
                case 20:
                    return run(m, up, 1, x) ^ 6;
                case 30:
                    return run(m, up, 0, x * 3);
                case 31: {
                    int first = run(m, up, 2, x);
                    return first + run(m, m.kind, 1, 1);
                }
                case 40:
                    return -run(m, up, 1, x);
                case 50:
                    return run(m, up, 2, x - c);
                case 51: {
                    int first = run(m, up, 1, x);
                    return first + run(m, up, 0, 2);
                }
                case 60:
                    return run(m, up, 0, x) ^ i;
                default: {
                    int first = run(m, m.kind, 1, x);
                    return first - run(m, up, 2, x);
                }
            }
        }

        int act(int model, int act, int x) {
            ran.clear();
            if (!hasModel(model) || act < 0 || act > 2) {
                return 0;
            }
            Model m = models.get(model);
            return run(m, m.kind, act, x);
        }

        int trace(int i) {
            return i < 0 || i >= Math.min(20, ran.size()) ? NONE : ran.get(i);
        }

        int taken(int model, int k) {
            if (k < 0 || k > 5) {
                return BAD;
            }
            if (!hasModel(model)) {
                return -11;
            }
            int kind = models.get(model).kind;
            for (int up = kind; up >= 0; up = ABOVE[up]) {
                if (up == k) {
                    return kind;
                }
            }
            return -12;
        }

        static boolean isTape(int tape) {
            return tape >= 0 && tape < 6;
        }

        int sheet(int tape, int i, int n, int taker) {
            if (!isTape(tape) || !hasTaker(taker)) {
                return NONE;
            }
            if (n < 1 || n > 20) {
                return BAD;
            }
            if (tapes[tape] != null && !(tapes[tape] instanceof long[])) {
                return -12;
            }
            int came = 0;
            for (long k = i; k < (long) i + n; k++) {
                if (i < 0 || tapes[tape] == null || k >= ((long[]) tapes[tape]).length) {
                    continue;
                }
                long line = ((long[]) tapes[tape])[(int) k];
                if (line >= 0 && line / 100 < 64 && choice(taker, (int) (line / 100), (int) (line % 100) - 1) >= 0) {
                    came++;
                }
            }
            return 100 * came + n - came;
        }

        int count(int what) {
            int[] counts = {things.size(), takers.size(), choices.size(), models.size(), text.length(), asks.size(),
                ORDERS.get(things.size()).size(), ran.size()};
            return what < 0 || what > 7 ? BAD : counts[what];
        }

        int tape(int tape, int sort, int n) {
            if (!isTape(tape)) {
                return NONE;
            }
            if (sort < -1 || sort > 4 || sort >= 0 && n > 60) {
                return BAD;
            }
            if (sort >= 0 && n < 0) {
                return -14;
            }
            Function<Integer, Object> row = size -> sort == 0 ? new byte[size] : sort == 1 ? new short[size]
                : sort == 2 ? new int[size] : sort == 3 ? new long[size] : new boolean[size];
            tapes[tape] = sort < 0 ? null : row.apply(n);
            return 1;
        }

        int item(int tape, int i, long v) {
            if (!isTape(tape)) {
                return NONE;
            }
            if (tapes[tape] == null) {
                return -11;
            }
            if (i < 0 || i >= java.lang.reflect.Array.getLength(tapes[tape])) {
                return -13;
            }
            if (tapes[tape] instanceof byte[] row) {
                row[i] = (byte) v;
            } else if (tapes[tape] instanceof short[] row) {
                row[i] = (short) v;
            } else if (tapes[tape] instanceof int[] row) {
                row[i] = (int) v;
            } else if (tapes[tape] instanceof long[] row) {
                row[i] = v;
            } else if (tapes[tape] instanceof boolean[] row) {
                row[i] = v != 0;
            }
            return 1;
        }

        long read(int tape, int i) {
            if (!isTape(tape) || tapes[tape] == null || i < 0 || i >= java.lang.reflect.Array.getLength(tapes[tape])) {
                return NO;
            }
            Object got = java.lang.reflect.Array.get(tapes[tape], i);
            return got instanceof Boolean truth ? truth ? 1 : 0 : ((Number) got).longValue();
        }

        int shift(int tape, int i, int other, int j, int n) {
            if (!isTape(tape) || !isTape(other)) {
                return NONE;
            }
            if (tapes[tape] == null || tapes[other] == null) {
                return -11;
            }
            try {
                System.arraycopy(tapes[tape], i, tapes[other], j, n);
            } catch (ArrayStoreException e) {
                return -12;
            } catch (IndexOutOfBoundsException e) {
                return -13;
            }
            return n;
        }
    }

    /** Reads an E for one thing, from the left on. */
    private static final class Reading {
        private final String text;
        private final int number;
        private final Thing thing;
        private int place;

        Reading(String text, int number, Thing thing) {
            this.text = text;
            this.number = number;
            this.thing = thing;
        }

        private char here() {
            return place < text.length() ? text.charAt(place) : 0;
        }

        boolean any() {
            boolean holds = all();
            if (here() == '|') {
                place++;
                return any() | holds;
            }
            return holds;
        }

        boolean all() {
            boolean holds = one();
            if (here() == '&') {
                place++;
                return all() & holds;
            }
            return holds;
        }

        boolean one() {
            char sign = here();
            place++;
            if (sign == '!') {
                return !one();
            }
            if (sign == '(') {
                boolean holds = any();
                place++;
                return holds;
            }
            char than = here();
            place++;
            int n = 0;
            while (here() >= '0' && here() <= '9') {
                n = 10 * n + here() - '0';
                place++;
            }
            switch (sign) {
                case 'm':
                    return n < 8 && (thing.marks & 1 << n) != 0;
                case 't':
                    return number == n;
                case 'n':
                    return thing.nest == n;
                default:
                    return than == '<' ? thing.price < n : than == '=' ? thing.price == n : thing.price > n;
            }
        }
    }
}
