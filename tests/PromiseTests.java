/** For each promise of the document: ordinary inputs, its edges, wrong inputs. */
public final class PromiseTests {
    private static final int NONE = -1, BAD = -2, STATE = -3, FULL = -4;
    private static final int NOTHING = -11, CAST = -12, PLACE = -13, SIZE = -14;
    private static final long NO = Long.MIN_VALUE;
    private static final int MIN = Integer.MIN_VALUE, MAX = Integer.MAX_VALUE;
    private static final String BASE = "worth 0 20;worth 1 5;mark 1 5;none 5";
    private static int wrong = 0;

    private static void due(int promise, String call, long got, long want) {
        if (got != want) {
            wrong++;
            System.out.println("promise " + promise + ": " + call + " answered " + got + ", due is " + want);
        }
    }

    private static void feedText(WhyChosen x, String text) {
        int from = 0;
        while (from < text.length()) {
            int n = Math.min(4, text.length() - from);
            int bytes = 0;
            for (int i = 0; i < n; i++) {
                bytes = bytes << 8 | text.charAt(from + i);
            }
            x.feed(bytes, n);
            from += n;
        }
    }

    private static int tell(WhyChosen x, String text, int kind) {
        feedText(x, text);
        return x.model(kind);
    }

    /** Things 0 (mark 0, price 20, nest 0), 1 (marks 0 and 1, 30, 0), 2 (mark 1, 10, 1); takers of kinds 0, 1. */
    private static WhyChosen world() {
        WhyChosen x = new WhyChosen();
        x.thing(1, 20, 0);
        x.thing(3, 30, 0);
        x.thing(2, 10, 1);
        x.taker(0);
        x.taker(1);
        return x;
    }

    private static WhyChosen things(int n) {
        WhyChosen x = new WhyChosen();
        for (int i = 0; i < n; i++) {
            x.thing(0, 10, 0);
        }
        x.taker(0);
        return x;
    }

    public static void main(String[] args) {
        newObject();
        thing();
        price();
        taker();
        choice();
        put();
        of();
        feed();
        model();
        faults();
        weight();
        oddsPlain();
        oddsNestedAndMixed();
        oddsLookedAndRule();
        oddsOfRules();
        oddsWrong();
        score();
        misses();
        grid();
        which();
        agree();
        letgo();
        like();
        would();
        must();
        ask();
        next();
        silly();
        could();
        away();
        coin();
        lay();
        best();
        worse();
        act();
        trace();
        taken();
        sheet();
        count();
        tape();
        item();
        read();
        shift();
        System.out.println(wrong == 0 ? "all promises hold" : wrong + " answers are not as due");
        System.exit(wrong == 0 ? 0 : 1);
    }

    private static void newObject() {
        WhyChosen x = new WhyChosen();
        for (int what = 0; what < 8; what++) {
            due(1, "count(" + what + ")", x.count(what), what == 6 ? 1 : 0);
        }
        due(1, "price(0, 1)", x.price(0, 1), NONE);
        due(1, "agree(0)", x.agree(0), NONE);
        due(1, "of(0, 0)", x.of(0, 0), NONE);
        due(1, "taken(0, 0)", x.taken(0, 0), NOTHING);
        due(1, "trace(0)", x.trace(0), NONE);
        due(1, "read(0, 0)", x.read(0, 0), NO);
        due(1, "silly(0)", x.silly(0), 0);
        due(1, "NO", WhyChosen.NO, NO);
        due(1, "NONE", WhyChosen.NONE, NONE);
        due(1, "BAD", WhyChosen.BAD, BAD);
        due(1, "STATE", WhyChosen.STATE, STATE);
        due(1, "FULL", WhyChosen.FULL, FULL);
        new WhyChosen().thing(0, 0, 0);
        due(1, "count(0) of another one", x.count(0), 0);
    }

    private static void thing() {
        WhyChosen x = new WhyChosen();
        int[][] bad = {{-1, 0, 0}, {256, 0, 0}, {0, -1, 0}, {0, 100, 0}, {0, 0, -1}, {0, 0, 4}, {MIN, 0, 0}, {0, MAX, 0}, {0, 0, MAX}};
        for (int[] b : bad) {
            due(2, "thing(" + b[0] + ", " + b[1] + ", " + b[2] + ")", x.thing(b[0], b[1], b[2]), BAD);
        }
        due(2, "count(0)", x.count(0), 0);
        due(2, "thing(255, 99, 3)", x.thing(255, 99, 3), 0);
        for (int i = 1; i < 6; i++) {
            due(2, "thing(0, 0, 0)", x.thing(0, 0, 0), i);
        }
        due(2, "the 7th thing", x.thing(0, 0, 0), FULL);
        due(2, "the 7th thing, bad", x.thing(0, 0, 4), BAD);
        x.ask(1);
        due(2, "the 7th thing with an ask", x.thing(0, 0, 0), STATE);
        WhyChosen y = new WhyChosen();
        y.thing(1, 2, 3);
        y.taker(0);
        tell(y, "none 1", 1);
        due(2, "thing after taker and model", y.thing(1, 2, 3), 1);
        y.choice(0, 1, 0);
        due(2, "thing after choice", y.thing(1, 2, 3), STATE);
        due(2, "bad thing after choice", y.thing(-1, 2, 3), BAD);
        y.put(0, 2);
        due(2, "thing after choice let go", y.thing(1, 2, 3), STATE);
        due(2, "count(0)", y.count(0), 2);
    }

    private static void price() {
        WhyChosen x = world();
        due(3, "price(0, 99)", x.price(0, 99), 20);
        due(3, "price(0, 0)", x.price(0, 0), 99);
        due(3, "price(0, 5)", x.price(0, 5), 0);
        due(3, "price(1, 1)", x.price(1, 1), 30);
        due(3, "price(3, 1)", x.price(3, 1), NONE);
        due(3, "price(-1, 100)", x.price(-1, 100), NONE);
        due(3, "price(0, 100)", x.price(0, 100), BAD);
        due(3, "price(0, -1)", x.price(0, -1), BAD);
        due(3, "price(7, 1)", x.price(7, 1), NONE);
        due(3, "price(0, 6)", x.price(0, 6), 5);
    }

    private static void taker() {
        WhyChosen x = new WhyChosen();
        due(4, "taker(-1)", x.taker(-1), BAD);
        due(4, "taker(3)", x.taker(3), BAD);
        for (int i = 0; i < 16; i++) {
            due(4, "taker", x.taker(i % 3), i);
        }
        due(4, "the 17th taker", x.taker(0), FULL);
        due(4, "the 17th taker, bad", x.taker(3), BAD);
        due(4, "count(1)", x.count(1), 16);
    }

    private static void choice() {
        WhyChosen x = world();
        due(5, "choice(2, 7, 0)", x.choice(2, 7, 0), NONE);
        due(5, "choice(-1, 0, 9)", x.choice(-1, 0, 9), NONE);
        due(5, "choice(0, 0, -1)", x.choice(0, 0, -1), BAD);
        due(5, "choice(0, 8, 3)", x.choice(0, 8, 3), BAD);
        due(5, "choice(0, -1, 0)", x.choice(0, -1, 0), BAD);
        due(5, "choice(0, MAX, 0)", x.choice(0, MAX, 0), BAD);
        due(5, "choice(0, 5, 1)", x.choice(0, 5, 1), BAD);
        due(5, "choice(0, 6, 0)", x.choice(0, 6, 0), BAD);
        due(5, "choice(0, 5, -2)", x.choice(0, 5, -2), BAD);
        due(5, "choice(0, 5, 32)", x.choice(0, 5, 32), BAD);
        due(5, "choice(0, 7, 7)", x.choice(0, 7, 7), BAD);
        due(5, "count(2)", x.count(2), 0);
        for (int i = 0; i < 80; i++) {
            due(5, "choice(1, 5, 2)", x.choice(1, 5, i % 2 == 0 ? 2 : -1), i);
        }
        due(5, "the 81st choice", x.choice(1, 5, 2), FULL);
        due(5, "the 81st choice, bad", x.choice(1, 5, 1), BAD);
        due(5, "the 81st choice, none", x.choice(9, 5, 1), NONE);
        due(5, "of(0, 2)", x.of(0, 2), 2);
        due(5, "of(1, 2)", x.of(1, 2), -5);
    }

    private static void put() {
        WhyChosen x = world();
        x.choice(0, 7, 0);
        due(6, "put(0, 1)", x.put(0, 1), 0);
        due(6, "put(0, 2)", x.put(0, 2), 1);
        due(6, "put(0, 3)", x.put(0, 3), BAD);
        due(6, "put(0, -1)", x.put(0, -1), BAD);
        due(6, "put(0, 0)", x.put(0, 0), 2);
        due(6, "put(1, 9)", x.put(1, 9), NONE);
        due(6, "put(-1, 0)", x.put(-1, 0), NONE);
        due(6, "put(0, 0)", x.put(0, 0), 0);
    }

    private static void of() {
        WhyChosen x = world();
        x.choice(1, 5, 2);
        x.choice(0, 6, -1);
        x.put(1, 2);
        int[] first = {1, 5, 2, 0};
        int[] second = {0, 6, -5, 2};
        for (int what = 0; what < 4; what++) {
            due(7, "of(0, " + what + ")", x.of(0, what), first[what]);
            due(7, "of(1, " + what + ")", x.of(1, what), second[what]);
        }
        due(7, "of(0, 4)", x.of(0, 4), NONE);
        due(7, "of(0, -1)", x.of(0, -1), NONE);
        due(7, "of(2, 0)", x.of(2, 0), NONE);
        due(7, "of(-1, 0)", x.of(-1, 0), NONE);
    }

    private static void feed() {
        WhyChosen x = new WhyChosen();
        due(8, "feed(5, -1)", x.feed(5, -1), BAD);
        due(8, "feed(5, 5)", x.feed(5, 5), BAD);
        due(8, "feed(5, 0)", x.feed(5, 0), 0);
        due(8, "feed(none, 4)", x.feed('n' << 24 | 'o' << 16 | 'n' << 8 | 'e', 4), 4);
        due(8, "feed(.. 7, 2)", x.feed('x' << 16 | ' ' << 8 | '7', 2), 6);
        due(8, "model(1)", x.model(1), 0);
        due(8, "weight of nothing", x.weight(0, 7, 0), 7);
        for (int i = 1; i <= 29; i++) {
            due(8, "feed(0, 4)", x.feed(0, 4), 4 * i);
        }
        due(8, "feed(0, 3)", x.feed(0, 3), 119);
        due(8, "feed(0, 2)", x.feed(0, 2), FULL);
        due(8, "feed(0, 4)", x.feed(0, 4), FULL);
        due(8, "feed(0, 9)", x.feed(0, 9), BAD);
        due(8, "count(4)", x.count(4), 119);
        due(8, "feed(-1, 1)", x.feed(-1, 1), 120);
        due(8, "feed(0, 1)", x.feed(0, 1), FULL);
        due(8, "feed(0, 0)", x.feed(0, 0), 120);
        due(8, "model(1)", x.model(1), -10);
        due(8, "count(4)", x.count(4), 0);
    }

    private static void model() {
        WhyChosen x = world();
        feedText(x, "none 1");
        due(9, "model(-1)", x.model(-1), NONE);
        due(9, "model(6)", x.model(6), NONE);
        due(9, "count(4)", x.count(4), 6);
        for (int i = 0; i < 10; i++) {
            due(9, "model", x.model(i % 6), i);
            due(9, "count(4)", x.count(4), 0);
            feedText(x, "none 1");
        }
        due(9, "the 11th model", x.model(0), FULL);
        due(9, "the 11th model, none", x.model(6), NONE);
        due(9, "count(4)", x.count(4), 6);
        due(9, "count(3)", x.count(3), 10);
    }

    private static void faults() {
        String[] texts = {"", "w", "worth", "worth ", "worth 6 1", "worth 5", "worth 5 ", "worth 5 x", "worth 5 1234", "worth 55 1",
            "worth  5 1", "mark 8 1", "mark 7 1;", "price 1000", "price;", "px", "pr", "prick 1", "pickm=1", "pick",
            "pick ", "pick m", "pick m1", "pick m=", "pick m=x", "pick m=11", "pick p", "pick p<", "pick p<1234", "pick p!3",
            "pick t<1", "pick n>1", "pick !", "pick ()", "pick (m=1", "pick (m=1|", "pick m=1)", "pick m=1&&t=0", "pick m=1| t=0", "pick (((((m=1)))))",
            "pick !!!!!m=1", "pick (!(!(m=1))))", "pick ((((!m=1))))", "none 1,", "none 12 ", "none -1", "look 0", "look 10", "look a", "lock 1",
            "kind 3 1 1", "kind 0 12 1", "kind 0 1", "kind 0 1 ", "kind 0 1 1;k", "None 1", "none 1;;none 1", "none 1; none 1", "\u00ff", "none\0001",
            "look :", "kind 0 : 1", "pick m=:", "none :", "none 1:", "none /", "worth 0 1/", "mark 0 ", "pick p<1:", "pick p<"};
        int[] faults = {0, 1, 5, 6, 6, 7, 8, 8, 11, 7,
            6, 5, 9, 9, 5, 1, 2, 4, 4, 4,
            5, 6, 6, 7, 7, 8, 6, 7, 10, 6,
            6, 6, 6, 6, 9, 10, 8, 9, 9, 9,
            9, 9, 9, 6, 7, 5, 5, 6, 5, 2,
            5, 8, 8, 9, 12, 0, 7, 7, 0, 4,
            5, 7, 7, 5, 6, 5, 9, 7, 8, 7};
        for (int i = 0; i < texts.length; i++) {
            WhyChosen x = new WhyChosen();
            due(9, "the model of '" + texts[i] + "'", tell(x, texts[i], 1), -10 - faults[i]);
            due(9, "count(4) behind it", x.count(4), 0);
            due(9, "count(3) behind it", x.count(3), 0);
        }
        String[] good = {"none 0", "price 0", "worth 0 0", "mark 0 0", "kind 0 0 0", "none 007", "worth 0 999", "worth 5 1;worth 5 2", "mark 7 10", "price 1", "look 1", "look 9", "kind 2 9 100",
            "pick m=9", "pick t=9", "pick n=9", "pick p<999", "pick p=0", "pick p>12", "pick ((((m=1))))", "pick !!!!m=1",
            "pick !(!(m=1|t=2)&n=3)|p<5", "pick (m=1)&(m=2)|(((!t=1)))", "pick m=1;pick m=2",
            "none 1;none 1;none 1;none 1;none 1;none 1;none 1;none 1;none 1;none 1"};
        for (String text : good) {
            due(9, "the model of '" + text + "'", tell(new WhyChosen(), text, 5), 0);
        }
        String eleven = "none 1;none 1;none 1;none 1;none 1;none 1;none 1;none 1;none 1;none 1;none 1";
        due(9, "the model of 11 clauses", tell(new WhyChosen(), eleven, 5), -10 - 69);
        WhyChosen x = new WhyChosen();
        tell(x, "nine", 1);
        due(9, "a model behind a fault", tell(x, "none 1", 1), 0);
    }

    private static void weight() {
        WhyChosen x = world();
        due(10, BASE, tell(x, BASE, 1), 0);
        int[] plain = {20, 10, 15};
        for (int thing = 0; thing < 3; thing++) {
            for (int kind = 0; kind < 3; kind++) {
                due(10, "weight(0, " + thing + ", " + kind + ")", x.weight(0, thing, kind), plain[thing]);
            }
        }
        due(10, "weight(0, 7, 2)", x.weight(0, 7, 2), 5);
        int[][] wrongs = {{1, 0, 0}, {-1, 0, 0}, {0, 3, 0}, {0, 6, 0}, {0, 8, 0}, {0, -1, 0}, {0, 0, 3}, {0, 0, -1}, {0, 7, 3}, {MAX, 0, 0}};
        for (int[] w : wrongs) {
            due(10, "weight(" + w[0] + ", " + w[1] + ", " + w[2] + ")", x.weight(w[0], w[1], w[2]), NONE);
        }
        tell(x, "price 3;none 99;kind 0 1 3;kind 2 5 0;worth 2 49", 0);
        due(10, "10 - 3 * 20 / 10, times 3", x.weight(1, 0, 0), 12);
        due(10, "10 - 3 * 20 / 10", x.weight(1, 0, 1), 4);
        due(10, "10 - 3 * 30 / 10", x.weight(1, 1, 1), 1);
        due(10, "times 0 is times 1", x.weight(1, 2, 2), 46);
        due(10, "nothing, 50 at most", x.weight(1, 7, 0), 50);
        x.price(0, 99);
        due(10, "1 at least, then times 3", x.weight(1, 0, 0), 3);
        x.price(0, 13);
        due(10, "10 - 39 / 10, cut", x.weight(1, 0, 1), 7);
        tell(x, "worth 0 3;worth 0 40;mark 0 2;mark 0 4;kind 0 0 9;kind 0 0 1;price 9;price 1;none 9;none 2", 3);
        due(10, "the last ones told", x.weight(2, 0, 0), 43);
        due(10, "the last none told", x.weight(2, 7, 0), 2);
        tell(x, "worth 0 999;look 1", 4);
        due(10, "50 at most", x.weight(3, 0, 0), 50);
        due(10, "nothing without none", x.weight(3, 7, 0), 0);
        WhyChosen y = things(6);
        tell(y, "kind 0 1 2;kind 1 1 3;kind 2 1 4", 1);
        for (int thing = 0; thing < 6; thing++) {
            due(10, "by number modulo 3", y.weight(0, thing, thing % 3), 10 * (thing % 3 + 2));
            due(10, "by another kind", y.weight(0, thing, (thing + 1) % 3), 10);
        }
    }

    private static void dueOdds(WhyChosen x, int model, int thing, int set, int kind, long above, long below) {
        String call = "odds(" + model + ", " + thing + ", " + set + ", " + kind + ", ";
        due(11, call + "0)", x.odds(model, thing, set, kind, 0), above);
        due(11, call + "1)", x.odds(model, thing, set, kind, 1), below);
    }

    private static void oddsPlain() {
        WhyChosen x = world();
        tell(x, BASE, 0);
        dueOdds(x, 0, 0, 7, 0, 1, 3);
        dueOdds(x, 0, 1, 6, 2, 1, 2);
        dueOdds(x, 0, 0, 6, 2, 0, 1);
        dueOdds(x, 0, 7, 7, 0, 0, 1);
        tell(x, BASE, 1);
        dueOdds(x, 1, 0, 7, 0, 2, 5);
        dueOdds(x, 1, 1, 7, 1, 1, 5);
        dueOdds(x, 1, 2, 7, 0, 3, 10);
        dueOdds(x, 1, 7, 7, 0, 1, 10);
        dueOdds(x, 1, 2, 3, 0, 0, 1);
        dueOdds(x, 1, 2, 4, 0, 3, 4);
        dueOdds(x, 1, 7, 4, 0, 1, 4);
        tell(x, "kind 0 0 3", 1);
        dueOdds(x, 2, 0, 3, 0, 3, 4);
        dueOdds(x, 2, 0, 3, 1, 1, 2);
        dueOdds(x, 2, 7, 3, 1, 0, 1);
        dueOdds(x, 2, 1, 2, 1, 1, 1);
    }

    private static void oddsNestedAndMixed() {
        WhyChosen x = world();
        tell(x, BASE, 2);
        dueOdds(x, 0, 0, 7, 0, 1, 3);
        dueOdds(x, 0, 1, 7, 0, 1, 6);
        dueOdds(x, 0, 2, 7, 0, 3, 8);
        dueOdds(x, 0, 7, 7, 0, 1, 8);
        dueOdds(x, 0, 1, 6, 0, 1, 3);
        dueOdds(x, 0, 0, 6, 0, 0, 1);
        dueOdds(x, 0, 7, 6, 0, 1, 6);
        tell(x, "worth 0 20;kind 0 1 2;kind 1 3 3", 3);
        dueOdds(x, 1, 0, 3, 0, 1, 2);
        dueOdds(x, 1, 0, 3, 2, 1, 2);
        dueOdds(x, 1, 1, 3, 1, 1, 2);
        dueOdds(x, 1, 2, 3, 1, 0, 1);
        dueOdds(x, 1, 7, 3, 1, 0, 1);
        tell(x, "worth 0 20;kind 0 0 2;none 10", 3);
        dueOdds(x, 2, 0, 1, 0, 4, 5);
        dueOdds(x, 2, 0, 1, 1, 2, 3);
        dueOdds(x, 2, 7, 1, 1, 1, 3);
        tell(x, "kind 0 4 2;kind 0 0 5;kind 2 9 1;none 30", 3);
        dueOdds(x, 3, 0, 1, 0, 1, 4);
        dueOdds(x, 3, 7, 1, 0, 3, 4);
    }

    private static void oddsLookedAndRule() {
        WhyChosen x = world();
        tell(x, "look 2", 4);
        dueOdds(x, 0, 0, 7, 0, 1, 2);
        dueOdds(x, 0, 1, 7, 0, 1, 2);
        dueOdds(x, 0, 2, 7, 0, 0, 1);
        dueOdds(x, 0, 2, 5, 0, 1, 2);
        tell(x, "look 9;look 1;none 30", 4);
        dueOdds(x, 1, 1, 7, 0, 1, 4);
        dueOdds(x, 1, 7, 7, 0, 3, 4);
        dueOdds(x, 1, 0, 7, 0, 0, 1);
        dueOdds(x, 1, 0, 5, 0, 1, 4);
        tell(x, BASE, 4);
        dueOdds(x, 2, 2, 7, 0, 3, 10);
        tell(x, BASE + ";look 7", 4);
        dueOdds(x, 3, 2, 7, 0, 3, 10);
        tell(x, "look 1", 1);
        dueOdds(x, 4, 2, 7, 0, 1, 3);
        WhyChosen y = world();
        tell(y, "pick m=1&p<20;pick p>25", 5);
        dueOdds(y, 0, 2, 7, 0, 1, 1);
        dueOdds(y, 0, 1, 7, 0, 0, 1);
        dueOdds(y, 0, 7, 7, 0, 0, 1);
        dueOdds(y, 0, 1, 3, 0, 1, 1);
        dueOdds(y, 0, 7, 1, 0, 1, 1);
        dueOdds(y, 0, 0, 1, 0, 0, 1);
        tell(y, "none 5", 5);
        dueOdds(y, 1, 7, 7, 0, 1, 1);
        dueOdds(y, 1, 0, 7, 0, 0, 1);
    }

    /** Which of six things a rule picks (7: none). */
    private static void duePicked(String pick, int set, int picked) {
        WhyChosen x = new WhyChosen();
        x.thing(1, 9, 0);
        x.thing(3, 20, 1);
        x.thing(7, 31, 2);
        x.thing(15, 9, 0);
        x.thing(130, 5, 1);
        x.thing(0, 60, 3);
        due(11, "the model of " + pick, tell(x, pick, 5), 0);
        for (int thing = 0; thing < 8; thing++) {
            if (thing != 6) {
                due(11, pick + ", " + thing + " of " + set, x.odds(0, thing, set, 1, 0), thing == picked ? 1 : 0);
                due(11, pick + ", " + thing + " of " + set + ", below", x.odds(0, thing, set, 1, 1), 1);
            }
        }
    }

    private static void oddsOfRules() {
        duePicked("pick m=0", 63, 0);
        duePicked("pick m=0", 60, 3);
        duePicked("pick m=7", 63, 4);
        duePicked("pick m=8", 63, 7);
        duePicked("pick t=5", 63, 5);
        duePicked("pick t=9", 63, 7);
        duePicked("pick n=3", 63, 5);
        duePicked("pick n=1", 63, 4);
        duePicked("pick n=1", 15, 1);
        duePicked("pick p<9", 63, 4);
        duePicked("pick p<5", 63, 7);
        duePicked("pick p=9", 63, 0);
        duePicked("pick p>20", 63, 2);
        duePicked("pick p>031", 63, 5);
        duePicked("pick !m=1", 46, 5);
        duePicked("pick !m=0&!t=4", 63, 5);
        duePicked("pick t=5|t=2&m=7", 63, 5);
        duePicked("pick t=2&m=7|t=5", 63, 5);
        duePicked("pick (t=5|t=2)&m=2", 63, 2);
        duePicked("pick !(m=0|m=7)", 63, 5);
        duePicked("pick !!!!t=1", 63, 1);
        duePicked("pick !(!(t=1|t=2)&!t=5)&p>20", 63, 2);
        duePicked("pick t=0&t=1|t=2&t=2|t=3&t=4", 63, 2);
        duePicked("pick t=1&m=9;pick p>99;pick n=2;pick t=0", 63, 2);
    }

    private static void oddsWrong() {
        WhyChosen x = world();
        tell(x, BASE, 1);
        int[][] wrongs = {{1, 0, 7, 0, 0}, {-1, 0, 7, 0, 0}, {0, 3, 7, 0, 0}, {0, -1, 7, 0, 0}, {0, 8, 7, 0, 0}, {0, 0, 0, 0, 0}, {0, 0, 8, 0, 0},
            {0, 0, -1, 0, 0}, {0, 0, MIN, 0, 0}, {0, 0, 7, 3, 0}, {0, 0, 7, -1, 0}, {0, 0, 7, 0, 2}, {0, 0, 7, 0, -1}, {0, 7, 0, 0, 0}};
        for (int[] w : wrongs) {
            due(11, "odds(" + w[0] + ", " + w[1] + ", " + w[2] + ", " + w[3] + ", " + w[4] + ")", x.odds(w[0], w[1], w[2], w[3], w[4]), NO);
        }
    }

    /** Choices with PLAIN odds 2/5, 1/5, 1/7 (nothing); kept: 3/10, 3/4. */
    private static WhyChosen scored() {
        WhyChosen x = world();
        tell(x, BASE, 1);
        x.choice(0, 7, 0);
        x.choice(1, 7, 1);
        x.choice(0, 3, -1);
        x.choice(0, 7, 2);
        x.choice(0, 4, 2);
        x.choice(0, 7, 0);
        x.put(3, 1);
        x.put(4, 1);
        x.put(5, 2);
        return x;
    }

    private static void score() {
        WhyChosen x = scored();
        due(12, "score(0, 0)", x.score(0, 0), 400 + 200 + 142);
        due(12, "score(0, 1)", x.score(0, 1), 300 + 750);
        due(12, "score(0, 2)", x.score(0, 2), NONE);
        due(12, "score(0, -1)", x.score(0, -1), NONE);
        due(12, "score(1, 0)", x.score(1, 0), NONE);
        due(12, "score(-1, 0)", x.score(-1, 0), NONE);
        tell(x, "kind 1 0 3", 1);
        due(12, "by the taker's kind", x.score(1, 0), 333 + 600 + 0);
        due(12, "of no choices", world().score(0, 0), NONE);
        WhyChosen y = world();
        tell(y, BASE, 1);
        due(12, "of no choices", y.score(0, 0), 0);
    }

    private static void misses() {
        WhyChosen x = scored();
        due(13, "misses(0, 0)", x.misses(0, 0), 2);
        due(13, "misses(0, 1)", x.misses(0, 1), 1);
        due(13, "misses(0, 2)", x.misses(0, 2), NONE);
        due(13, "misses(0, -1)", x.misses(0, -1), NONE);
        due(13, "misses(1, 0)", x.misses(1, 0), NONE);
        tell(x, BASE, 0);
        due(13, "like odds are no misses", x.misses(1, 0), 1);
        tell(x, "none 50", 1);
        due(13, "none has greater odds", x.misses(2, 0), 2);
    }

    private static void grid() {
        WhyChosen x = scored();
        due(14, "grid(0, 2)", x.grid(0, 2), 1);
        due(14, "weight is as it was", x.weight(0, 2, 0), 15);
        due(14, "grid(0, 3)", x.grid(0, 3), NONE);
        due(14, "grid(0, 7)", x.grid(0, 7), NONE);
        due(14, "grid(0, -1)", x.grid(0, -1), NONE);
        due(14, "grid(1, 0)", x.grid(1, 0), NONE);
        WhyChosen y = world();
        tell(y, "worth 0 5", 1);
        due(14, "grid without choices", y.grid(0, 0), 1);
        y.choice(0, 3, 0);
        due(14, "grid(0, 0)", y.grid(0, 0), 30);
        due(14, "grid(0, 1)", y.grid(0, 1), 1);
        tell(y, "kind 0 0 9;none 10", 1);
        due(14, "the least of like ones: 50 at most", y.grid(1, 0), 6);
        tell(y, "none 10", 5);
        due(14, "a rule", y.grid(2, 0), 1);
        y.put(0, 1);
        due(14, "of used ones alone", y.grid(0, 0), 1);
        due(14, "score is as it was", y.score(0, 1), 333);
    }

    private static void which() {
        WhyChosen x = world();
        tell(x, "worth 0 10", 1);
        tell(x, "worth 0 30", 1);
        tell(x, "worth 0 30", 2);
        x.choice(0, 3, 0);
        x.put(0, 1);
        due(15, "which(0, 2)", x.which(0, 2), 1);
        due(15, "which(0, 0)", x.which(0, 0), 0);
        due(15, "which(1, 2)", x.which(1, 2), 1);
        due(15, "which(2, 1)", x.which(2, 1), NONE);
        due(15, "which(0, 3)", x.which(0, 3), NONE);
        due(15, "which(-1, 0)", x.which(-1, 0), NONE);
        x.put(0, 0);
        due(15, "which of no kept ones", x.which(0, 2), 0);
        WhyChosen y = world();
        tell(y, "worth 0 20;worth 1 30", 1);
        tell(y, "worth 0 2;worth 1 3", 1);
        tell(y, "worth 0 12;worth 1 8;none 10", 1);
        y.choice(0, 3, 0);
        y.put(0, 1);
        due(15, "fewest misses of like scores", y.which(0, 2), 2);
        due(15, "the least of like ones", y.which(0, 1), 0);
    }

    private static void agree() {
        WhyChosen x = world();
        due(16, "agree(0)", x.agree(0), 24);
        x.choice(0, 7, 0);
        due(16, "agree(0)", x.agree(0), 6);
        due(16, "agree(1)", x.agree(1), 24);
        x.choice(0, 6, -1);
        due(16, "agree(0)", x.agree(0), 2);
        x.choice(0, 2, -1);
        due(16, "agree(0)", x.agree(0), 2);
        x.choice(0, 2, 1);
        due(16, "agree(0)", x.agree(0), 0);
        x.put(3, 1);
        due(16, "kept ones do not count", x.agree(0), 2);
        due(16, "agree(2)", x.agree(2), NONE);
        due(16, "agree(-1)", x.agree(-1), NONE);
        due(16, "six things", things(6).agree(0), 5040);
        due(16, "no things", things(0).agree(0), 1);
    }

    private static void letgo() {
        WhyChosen x = world();
        due(17, "letgo(0)", x.letgo(0), 0);
        x.choice(0, 3, 0);
        x.choice(0, 3, 1);
        due(17, "letgo(0)", x.letgo(0), 1);
        x.choice(0, 3, 1);
        x.choice(0, 1, -1);
        due(17, "letgo(0)", x.letgo(0), 1);
        x.choice(0, 3, 0);
        due(17, "letgo(0)", x.letgo(0), 2);
        x.put(4, 2);
        due(17, "without one let go", x.letgo(0), 1);
        due(17, "letgo(1)", x.letgo(1), 0);
        due(17, "letgo(2)", x.letgo(2), NONE);
        due(17, "letgo(-1)", x.letgo(-1), NONE);
        WhyChosen y = things(3);
        for (int i = 0; i < 80; i++) {
            y.choice(0, 7, i % 3);
        }
        due(17, "27, 27 and 26 of three", y.letgo(0), 53);
        WhyChosen z = things(3);
        z.choice(0, 3, 0);
        z.choice(0, 6, 1);
        z.choice(0, 5, 2);
        due(17, "a ring", z.letgo(0), 1);
    }

    private static void like() {
        WhyChosen x = world();
        x.taker(2);
        x.choice(0, 3, 0);
        x.choice(1, 6, 1);
        due(18, "like(0, 1)", x.like(0, 1), 1);
        x.choice(2, 5, 2);
        due(18, "like(0, 2)", x.like(0, 2), 1);
        due(18, "like(2, 1)", x.like(2, 1), 1);
        x.choice(1, 1, -1);
        due(18, "like(0, 1)", x.like(0, 1), 0);
        due(18, "like(1, 0)", x.like(1, 0), 0);
        x.put(3, 1);
        due(18, "like(1, 0)", x.like(1, 0), 1);
        x.choice(0, 4, -1);
        due(18, "by one order alone", x.like(1, 0), 1);
        due(18, "like(0, 0)", x.like(0, 0), BAD);
        due(18, "like(3, 3)", x.like(3, 3), NONE);
        due(18, "like(0, 3)", x.like(0, 3), NONE);
        due(18, "like(-1, 0)", x.like(-1, 0), NONE);
    }

    private static void would() {
        WhyChosen x = world();
        due(19, "would(0, 3)", x.would(0, 3), 131);
        x.choice(0, 7, 0);
        due(19, "would(0, 3)", x.would(0, 3), 1);
        due(19, "would(0, 6)", x.would(0, 6), 134);
        due(19, "would(1, 6)", x.would(1, 6), 134);
        x.choice(0, 4, -1);
        due(19, "would(0, 6)", x.would(0, 6), 130);
        due(19, "would(0, 4)", x.would(0, 4), 128);
        x.choice(0, 1, -1);
        due(19, "none agrees", x.would(0, 7), 0);
        x.put(2, 2);
        due(19, "would(0, 7)", x.would(0, 7), 1);
        x.choice(0, 2, 1);
        due(19, "one order alone", x.agree(0), 1);
        due(19, "would(0, 6)", x.would(0, 6), 2);
        due(19, "would(2, 0)", x.would(2, 0), NONE);
        due(19, "would(0, 0)", x.would(0, 0), BAD);
        due(19, "would(0, 8)", x.would(0, 8), BAD);
        due(19, "would(0, -1)", x.would(0, -1), BAD);
        due(19, "would(0, 128)", x.would(0, 128), BAD);
    }

    private static void must() {
        WhyChosen x = world();
        x.taker(2);
        x.choice(0, 7, 0);
        x.choice(1, 3, 1);
        x.choice(1, 3, 0);
        due(20, "must(0, 3, 0)", x.must(0, 3, 0), 1);
        due(20, "must(0, 3, 1)", x.must(0, 3, 1), 2);
        due(20, "must(1, 3, 0)", x.must(1, 3, 0), 0);
        due(20, "must(1, 3, 1)", x.must(1, 3, 1), 1);
        x.put(2, 2);
        due(20, "must(1, 3, 0)", x.must(1, 3, 0), 1);
        due(20, "must(1, 6, 1)", x.must(1, 6, 1), 3);
        due(20, "must(3, 8, 0)", x.must(3, 8, 0), NONE);
        due(20, "must(7, 3, 0)", x.must(7, 3, 0), NONE);
        due(20, "must(-1, 3, 0)", x.must(-1, 3, 0), NONE);
        due(20, "must(0, 3, 2)", x.must(0, 3, 2), NONE);
        due(20, "must(0, 0, -1)", x.must(0, 0, -1), NONE);
        due(20, "must(0, 6, 0)", x.must(0, 6, 0), BAD);
        due(20, "must(0, 9, 0)", x.must(0, 9, 0), BAD);
        due(20, "must(0, -1, 0)", x.must(0, -1, 0), BAD);
        due(20, "must(0, 0, 0)", x.must(0, 0, 0), BAD);
    }

    private static void ask() {
        WhyChosen x = world();
        due(21, "ask(0)", x.ask(0), BAD);
        due(21, "ask(8)", x.ask(8), BAD);
        due(21, "ask(-1)", x.ask(-1), BAD);
        for (int i = 0; i < 10; i++) {
            due(21, "ask", x.ask(i % 7 + 1), i);
        }
        due(21, "the 11th ask", x.ask(1), FULL);
        due(21, "the 11th ask, bad", x.ask(0), BAD);
        due(21, "count(5)", x.count(5), 10);
    }

    private static void next() {
        WhyChosen x = world();
        due(22, "no asks", x.next(0), -5);
        due(22, "next(2)", x.next(2), NONE);
        x.ask(1);
        x.ask(3);
        x.ask(6);
        due(22, "the first of like ones", x.next(0), 1);
        due(22, "next(-1)", x.next(-1), NONE);
        x.choice(0, 7, 0);
        due(22, "next(0)", x.next(0), 2);
        x.choice(0, 4, -1);
        due(22, "next(0)", x.next(0), 2);
        x.ask(7);
        due(22, "next(1)", x.next(1), 3);
        x.choice(0, 1, -1);
        due(22, "none agrees", x.next(0), -5);
        WhyChosen y = things(3);
        y.ask(7);
        y.ask(3);
        due(22, "the first", y.next(0), 0);
    }

    private static void silly() {
        WhyChosen x = world();
        due(23, "silly(7)", x.silly(7), 0);
        due(23, "silly(6)", x.silly(6), 0);
        x.price(1, 10);
        due(23, "silly(6)", x.silly(6), 1);
        due(23, "silly(7)", x.silly(7), 1);
        due(23, "silly(5)", x.silly(5), 0);
        due(23, "silly(2)", x.silly(2), 0);
        due(23, "silly(0)", x.silly(0), 0);
        due(23, "silly(8)", x.silly(8), BAD);
        due(23, "silly(-1)", x.silly(-1), BAD);
        x.price(1, 11);
        due(23, "silly(7)", x.silly(7), 0);
        due(23, "silly(3)", x.silly(3), 1);
        WhyChosen y = new WhyChosen();
        y.thing(7, 10, 0);
        y.thing(3, 10, 1);
        y.thing(3, 9, 1);
        due(23, "the first has all", y.silly(3), 1);
        due(23, "the first costs more", y.silly(5), 0);
        due(23, "like marks", y.silly(6), 1);
    }

    private static void could() {
        WhyChosen x = world();
        x.choice(0, 3, 0);
        due(24, "could(0)", x.could(0), 0);
        x.ask(3);
        x.ask(7);
        x.ask(5);
        x.ask(1);
        due(24, "could(0)", x.could(0), 2);
        x.choice(0, 1, -1);
        x.put(1, 2);
        due(24, "could(1)", x.could(1), 4);
        due(24, "could(2)", x.could(2), NONE);
        due(24, "could(-1)", x.could(-1), NONE);
    }

    private static void dueAway(WhyChosen x, int a, int b, int... wants) {
        for (int what = 0; what < 5; what++) {
            due(25, "away(" + a + ", " + b + ", " + what + ")", x.away(a, b, what), wants[what]);
        }
    }

    private static void away() {
        WhyChosen x = world();
        dueAway(x, 0, 1, 0, 0, 0, 0, -6);
        WhyChosen y = world();
        y.choice(0, 7, 1);
        y.choice(0, 5, 0);
        dueAway(y, 0, 1, 0, 1, 1, 1, 1);
        x.choice(0, 3, 0);
        x.choice(1, 7, 2);
        dueAway(x, 0, 1, 1, 2, 0, 0, -6);
        x.choice(0, 5, -1);
        dueAway(x, 0, 1, 1, 2, 0, 1, -5);
        x.choice(0, 1, 0);
        dueAway(x, 0, 1, 1, 2, 1, 2, 0);
        x.choice(0, 5, 0);
        dueAway(x, 0, 1, 1, 2, 2, 3, 1);
        dueAway(x, 1, 0, 0, 2, 0, 0, -6);
        x.choice(0, 3, 0);
        x.put(5, 1);
        dueAway(x, 0, 1, 1, 2, 2, 3, 1);
        dueAway(x, 0, 2, 1, 3, 2, 2, 1);
        due(25, "away(0, 0, 0)", x.away(0, 0, 0), BAD);
        due(25, "away(0, 0, 5)", x.away(0, 0, 5), NONE);
        due(25, "away(0, 1, -1)", x.away(0, 1, -1), NONE);
        due(25, "away(3, 3, 0)", x.away(3, 3, 0), NONE);
        due(25, "away(0, 3, 0)", x.away(0, 3, 0), NONE);
        due(25, "away(-1, 0, 0)", x.away(-1, 0, 0), NONE);
    }

    private static void coin() {
        WhyChosen x = world();
        tell(x, BASE, 1);
        due(26, "coin(0, 7)", x.coin(0, 7), 2 * (20 * 400 + 30 * 200 + 10 * 300));
        due(26, "coin(0, 3)", x.coin(0, 3), 2 * (20 * 571 + 30 * 285));
        due(26, "coin(0, 0)", x.coin(0, 0), 0);
        due(26, "coin(0, 8)", x.coin(0, 8), NO);
        due(26, "coin(0, -1)", x.coin(0, -1), NO);
        due(26, "coin(1, 7)", x.coin(1, 7), NO);
        due(26, "coin(-1, 0)", x.coin(-1, 0), NO);
        tell(x, "kind 0 0 3", 1);
        due(26, "by the takers' kinds", x.coin(1, 3), 20 * 750 + 30 * 250 + 20 * 500 + 30 * 500);
        WhyChosen y = new WhyChosen();
        y.thing(0, 9, 0);
        tell(y, "none 1", 1);
        due(26, "without takers", y.coin(0, 1), 0);
    }

    private static void lay() {
        WhyChosen x = world();
        tell(x, "none 10", 1);
        due(27, "lay(0, 0)", x.lay(0, 0), 0);
        due(27, "lay(0, 1)", x.lay(0, 1), 2);
        due(27, "lay(0, 2)", x.lay(0, 2), 3);
        due(27, "lay(0, 6)", x.lay(0, 6), 3);
        due(27, "lay(0, 7)", x.lay(0, 7), BAD);
        due(27, "lay(0, -1)", x.lay(0, -1), BAD);
        due(27, "lay(1, 9)", x.lay(1, 9), NONE);
        tell(x, "pick t=2", 5);
        due(27, "the fewest of like ones", x.lay(1, 6), 4);
        WhyChosen y = things(3);
        tell(y, "none 10", 1);
        due(27, "the least of like ones", y.lay(0, 1), 1);
        due(27, "three", y.lay(0, 3), 7);
        due(27, "two", y.lay(0, 2), 3);
        WhyChosen z = new WhyChosen();
        z.thing(0, 9, 0);
        tell(z, "none 1", 1);
        due(27, "no coin at all", z.lay(0, 6), 0);
    }

    private static void best() {
        WhyChosen x = world();
        tell(x, "worth 0 30;price 10;none 1", 1);
        int greatest = 0;
        long most = -1;
        for (int price = 0; price < 100; price++) {
            x.price(0, price);
            if (x.coin(0, 1) > most) {
                most = x.coin(0, 1);
                greatest = price;
            }
        }
        x.price(0, 20);
        due(28, "best(0, 0, 1)", x.best(0, 0, 1), greatest);
        due(28, "price is as it was", x.price(0, 20), 20);
        tell(x, "pick t=0&p<41;pick t=1", 5);
        due(28, "best of a rule", x.best(1, 0, 3), 40);
        tell(x, "look 9", 5);
        due(28, "the least of like ones", x.best(2, 0, 3), 0);
        due(28, "best(3, 0, 1)", x.best(3, 0, 1), NONE);
        due(28, "best(0, 3, 8)", x.best(0, 3, 8), NONE);
        due(28, "best(0, 7, 1)", x.best(0, 7, 1), NONE);
        due(28, "best(0, -1, 1)", x.best(0, -1, 1), NONE);
        due(28, "best(0, 0, 2)", x.best(0, 0, 2), BAD);
        due(28, "best(0, 0, 9)", x.best(0, 0, 9), BAD);
        due(28, "best(0, 0, 0)", x.best(0, 0, 0), BAD);
        due(28, "best(0, 0, -1)", x.best(0, 0, -1), BAD);
    }

    private static void worse() {
        WhyChosen x = world();
        tell(x, "worth 0 20;worth 1 30;kind 0 0 2;none 50", 1);
        due(29, "worse(0, 1, 2)", x.worse(0, 1, 2), 1);
        due(29, "worse(0, 2, 1)", x.worse(0, 2, 1), 1);
        due(29, "worse(0, 4, 3)", x.worse(0, 4, 3), 2);
        due(29, "worse(0, 3, 3)", x.worse(0, 3, 3), 0);
        due(29, "worse(0, 0, 4)", x.worse(0, 0, 4), 2);
        due(29, "worse(0, 4, 0)", x.worse(0, 4, 0), 0);
        due(29, "worse(0, 0, 0)", x.worse(0, 0, 0), 0);
        due(29, "worse(0, 8, 0)", x.worse(0, 8, 0), BAD);
        due(29, "worse(0, 0, -1)", x.worse(0, 0, -1), BAD);
        due(29, "worse(1, 8, 0)", x.worse(1, 8, 0), NONE);
    }

    private static void dueAct(WhyChosen x, int model, int act, int arg, int answer, int... bodies) {
        String call = "act(" + model + ", " + act + ", " + arg + ")";
        due(30, call, x.act(model, act, arg), answer);
        due(31, call + " count(7)", x.count(7), bodies.length);
        for (int i = 0; i < bodies.length; i++) {
            due(31, call + " trace(" + i + ")", x.trace(i), bodies[i]);
        }
        due(31, call + " trace behind the last", x.trace(bodies.length), NONE);
    }

    private static void act() {
        WhyChosen x = world();
        String two = "none 1;none 2";
        for (int kind = 0; kind < 6; kind++) {
            tell(x, two, kind);
        }
        dueAct(x, 0, 0, 5, 7, 10);
        dueAct(x, 0, 1, 5, 7, 11, 10);
        dueAct(x, 0, 2, 5, 14, 12, 11, 10);
        dueAct(x, 1, 0, 5, 7, 10);
        dueAct(x, 1, 1, 5, 6 ^ 6, 20, 11, 10);
        dueAct(x, 1, 2, 9, (10 ^ 6) * 2, 12, 20, 11, 10);
        dueAct(x, 2, 0, 5, 17, 30, 10);
        dueAct(x, 2, 1, 5, 15 ^ 6, 20, 11, 30, 10);
        dueAct(x, 2, 2, 5, 2 * (15 ^ 6) + (3 ^ 6), 31, 12, 20, 11, 30, 10, 20, 11, 30, 10);
        dueAct(x, 3, 0, 5, 7, 10);
        dueAct(x, 3, 1, 5, -(4 ^ 6), 40, 20, 11, 10);
        dueAct(x, 3, 2, 5, -2 * (4 ^ 6), 12, 40, 20, 11, 10);
        dueAct(x, 4, 0, 5, 7, 10);
        dueAct(x, 4, 1, 5, (3 ^ 6) + 4, 51, 20, 11, 10, 10);
        dueAct(x, 4, 2, 5, 2 * ((1 ^ 6) + 4), 50, 12, 51, 20, 11, 10, 10);
        dueAct(x, 5, 0, 5, 7 ^ 5, 60, 10);
        dueAct(x, 5, 1, 5, (7 ^ 5) - 5, 11, 60, 10);
        dueAct(x, 5, 2, 5, -3 - 2 * -3, 61, 11, 60, 10, 12, 11, 60, 10);
        dueAct(x, 0, 0, MAX, MIN + 1, 10);
        dueAct(x, 2, 0, MIN + 1, (MIN + 1) * 3 + 2, 30, 10);
        dueAct(x, 0, 2, 1 << 30, (1 << 31) + 4, 12, 11, 10);
        dueAct(x, 6, 0, 5, 0);
        dueAct(x, 0, 0, 5, 7, 10);
        dueAct(x, 0, 3, 5, 0);
        dueAct(x, -1, 0, 5, 0);
        dueAct(x, 0, -1, 5, 0);
    }

    private static void trace() {
        WhyChosen x = world();
        tell(x, "none 1", 1);
        due(31, "trace(0)", x.trace(0), NONE);
        x.act(0, 1, 1);
        due(31, "trace(-1)", x.trace(-1), NONE);
        due(31, "trace(0)", x.trace(0), 20);
        due(31, "trace(2)", x.trace(2), 10);
        due(31, "trace(3)", x.trace(3), NONE);
        due(31, "trace(20)", x.trace(20), NONE);
        due(31, "trace(MAX)", x.trace(MAX), NONE);
        x.score(0, 0);
        due(31, "trace(0)", x.trace(0), 20);
        x.act(0, 0, 1);
        due(31, "trace(0)", x.trace(0), 10);
        due(31, "trace(1)", x.trace(1), NONE);
        x.act(1, 0, 1);
        due(31, "trace(0)", x.trace(0), NONE);
    }

    private static void taken() {
        WhyChosen x = world();
        int[] above = {-1, 0, 1, 1, 1, 0};
        for (int kind = 0; kind < 6; kind++) {
            tell(x, "none 1", kind);
        }
        for (int kind = 0; kind < 6; kind++) {
            for (int k = 0; k < 6; k++) {
                boolean under = false;
                for (int up = kind; up >= 0; up = above[up]) {
                    under |= up == k;
                }
                due(32, "taken(" + kind + ", " + k + ")", x.taken(kind, k), under ? kind : CAST);
            }
        }
        due(32, "taken(0, 6)", x.taken(0, 6), BAD);
        due(32, "taken(0, -1)", x.taken(0, -1), BAD);
        due(32, "taken(6, 6)", x.taken(6, 6), BAD);
        due(32, "taken(6, 0)", x.taken(6, 0), NOTHING);
        due(32, "taken(-1, 5)", x.taken(-1, 5), NOTHING);
    }

    private static void sheet() {
        WhyChosen x = world();
        due(33, "of nothing", x.sheet(0, 0, 20, 0), 20);
        x.tape(0, 3, 10);
        long[] row = {701, 700, 302, -1, 303, 0, 100, 199, 800, 4294967396L};
        for (int i = 0; i < row.length; i++) {
            x.item(0, i, row[i]);
        }
        due(33, "sheet(0, 0, 3, 1)", x.sheet(0, 0, 3, 1), 300);
        due(33, "sheet(0, 3, 7, 0)", x.sheet(0, 3, 7, 0), 106);
        int[][] came = {{1, 7, 0}, {1, 7, -5}, {1, 3, 1}, {0, 1, -5}};
        for (int i = 0; i < 4; i++) {
            for (int what = 0; what < 3; what++) {
                due(33, "of(" + i + ", " + what + ")", x.of(i, what), came[i][what]);
            }
            due(33, "of(" + i + ", 3)", x.of(i, 3), 0);
        }
        due(33, "count(2)", x.count(2), 4);
        due(33, "one and no more", x.sheet(0, 9, 1, 0), 1);
        x.tape(2, 3, 4);
        x.item(2, 0, 100L * 4294967297L + 1);
        x.item(2, 1, -100L * 4294967295L);
        x.item(2, 2, Long.MAX_VALUE);
        x.item(2, 3, Long.MIN_VALUE);
        due(33, "great numbers do not wrap", x.sheet(2, 0, 4, 0), 4);
        x.tape(2, -1, 4);
        due(33, "a row that is gone", x.sheet(2, 0, 4, 0), 4);
        due(33, "beyond the end", x.sheet(0, 6, 20, 0), 119);
        due(33, "at the end", x.sheet(0, 10, 3, 0), 3);
        due(33, "far beyond the end", x.sheet(0, MAX, 3, 0), 3);
        due(33, "below 0", x.sheet(0, -1, 3, 0), 3);
        due(33, "far below 0", x.sheet(0, MIN, 3, 0), 3);
        due(33, "sheet(6, 0, 1, 0)", x.sheet(6, 0, 1, 0), NONE);
        due(33, "sheet(-1, 0, 1, 0)", x.sheet(-1, 0, 1, 0), NONE);
        due(33, "sheet(0, 0, 0, 2)", x.sheet(0, 0, 0, 2), NONE);
        due(33, "sheet(0, 0, 0, 0)", x.sheet(0, 0, 0, 0), BAD);
        due(33, "sheet(0, 0, 21, 0)", x.sheet(0, 0, 21, 0), BAD);
        for (int sort = 0; sort < 5; sort++) {
            x.tape(1, sort, 3);
            due(33, "a row of sort " + sort, x.sheet(1, 0, 1, 0), sort == 3 ? 1 : CAST);
            due(33, "a row of sort " + sort + ", n", x.sheet(1, 0, 0, 0), BAD);
        }
        x.tape(2, 3, 5);
        for (int i = 0; i < 5; i++) {
            x.item(2, i, 101);
        }
        due(33, "as many as told", x.sheet(2, 1, 2, 0), 200);
        due(33, "count(2)", x.count(2), 7);
        for (int i = x.count(2); i < 79; i++) {
            x.choice(0, 1, 0);
        }
        due(33, "full", x.sheet(0, 0, 3, 0), 102);
        due(33, "count(2)", x.count(2), 80);
    }

    private static void count() {
        WhyChosen x = world();
        x.feed(0, 3);
        x.ask(1);
        x.choice(0, 1, 0);
        int[] wants = {3, 2, 1, 0, 3, 1, 24, 0};
        for (int what = 0; what < 8; what++) {
            due(34, "count(" + what + ")", x.count(what), wants[what]);
        }
        due(34, "count(8)", x.count(8), BAD);
        due(34, "count(-1)", x.count(-1), BAD);
        int orders = 1;
        for (int n = 0; n <= 6; n++) {
            orders *= n + 1;
            due(34, "count(6) of " + n, things(n).count(6), orders);
        }
    }

    private static void tape() {
        WhyChosen x = new WhyChosen();
        due(35, "tape(6, 0, 0)", x.tape(6, 0, 0), NONE);
        due(35, "tape(-1, 9, 99)", x.tape(-1, 9, 99), NONE);
        due(35, "tape(0, 5, 1)", x.tape(0, 5, 1), BAD);
        due(35, "tape(0, -2, 1)", x.tape(0, -2, 1), BAD);
        due(35, "tape(0, 0, 61)", x.tape(0, 0, 61), BAD);
        due(35, "tape(0, 5, -1)", x.tape(0, 5, -1), BAD);
        due(35, "tape(0, 0, -1)", x.tape(0, 0, -1), SIZE);
        due(35, "tape(0, 0, MIN)", x.tape(0, 0, MIN), SIZE);
        due(35, "item(0, 0, 1)", x.item(0, 0, 1), NOTHING);
        due(35, "tape(0, 0, 60)", x.tape(0, 0, 60), 1);
        due(35, "item(0, 59, 1)", x.item(0, 59, 1), 1);
        due(35, "tape(0, 9, 60)", x.tape(0, 9, 60), BAD);
        due(35, "read(0, 59)", x.read(0, 59), 1);
        x.item(0, 0, 1);
        due(35, "tape(0, 3, 60)", x.tape(0, 3, 60), 1);
        due(35, "read(0, 0)", x.read(0, 0), 0);
        due(35, "read(0, 59)", x.read(0, 59), 0);
        due(35, "tape(0, -1, MIN)", x.tape(0, -1, MIN), 1);
        due(35, "read(0, 59)", x.read(0, 59), NO);
        due(35, "tape(0, -1, MAX)", x.tape(0, -1, MAX), 1);
        due(35, "tape(5, 4, 0)", x.tape(5, 4, 0), 1);
        due(35, "item(5, 0, 1)", x.item(5, 0, 1), PLACE);
    }

    private static void item() {
        WhyChosen x = new WhyChosen();
        long v = 0x123456789abcdef0L;
        long[] kept = {(byte) v, (short) v, (int) v, v, 1};
        for (int sort = 0; sort < 5; sort++) {
            x.tape(sort, sort, 3);
            due(36, "item of sort " + sort, x.item(sort, 2, v), 1);
            due(36, "read of sort " + sort, x.read(sort, 2), kept[sort]);
            x.item(sort, 2, 256L << 48);
            due(36, "read of sort " + sort, x.read(sort, 2), sort == 3 ? 256L << 48 : sort == 4 ? 1 : 0);
            x.item(sort, 2, 0);
            due(36, "read of sort " + sort, x.read(sort, 2), 0);
            x.item(sort, 1, -1);
            due(36, "read of sort " + sort, x.read(sort, 1), sort == 4 ? 1 : -1);
        }
        due(36, "item(0, 3, 1)", x.item(0, 3, 1), PLACE);
        due(36, "item(0, -1, 1)", x.item(0, -1, 1), PLACE);
        due(36, "item(5, -1, 1)", x.item(5, -1, 1), NOTHING);
        due(36, "item(6, 0, 1)", x.item(6, 0, 1), NONE);
        due(36, "item(-1, 0, 1)", x.item(-1, 0, 1), NONE);
    }

    private static void read() {
        WhyChosen x = new WhyChosen();
        x.tape(1, 2, 2);
        x.item(1, 1, 77);
        due(37, "read(1, 1)", x.read(1, 1), 77);
        due(37, "read(1, 0)", x.read(1, 0), 0);
        due(37, "read(1, 2)", x.read(1, 2), NO);
        due(37, "read(1, -1)", x.read(1, -1), NO);
        due(37, "read(0, 0)", x.read(0, 0), NO);
        due(37, "read(6, 0)", x.read(6, 0), NO);
        due(37, "read(-1, 0)", x.read(-1, 0), NO);
    }

    private static void shift() {
        WhyChosen x = new WhyChosen();
        x.tape(0, 2, 5);
        x.tape(1, 2, 3);
        x.tape(2, 3, 3);
        for (int i = 0; i < 5; i++) {
            x.item(0, i, i + 1);
        }
        due(38, "shift(0, 1, 1, 0, 3)", x.shift(0, 1, 1, 0, 3), 3);
        for (int i = 0; i < 3; i++) {
            due(38, "read(1, " + i + ")", x.read(1, i), i + 2);
        }
        due(38, "shift(0, 0, 0, 1, 4)", x.shift(0, 0, 0, 1, 4), 4);
        long[] up = {1, 1, 2, 3, 4};
        for (int i = 0; i < 5; i++) {
            due(38, "read(0, " + i + ")", x.read(0, i), up[i]);
        }
        due(38, "shift(0, 2, 0, 0, 3)", x.shift(0, 2, 0, 0, 3), 3);
        long[] down = {2, 3, 4, 3, 4};
        for (int i = 0; i < 5; i++) {
            due(38, "read(0, " + i + ")", x.read(0, i), down[i]);
        }
        due(38, "shift(0, 5, 1, 3, 0)", x.shift(0, 5, 1, 3, 0), 0);
        due(38, "shift(0, 6, 1, 3, 0)", x.shift(0, 6, 1, 3, 0), PLACE);
        due(38, "shift(0, 0, 1, 4, 0)", x.shift(0, 0, 1, 4, 0), PLACE);
        due(38, "shift(0, 0, 1, 0, 4)", x.shift(0, 0, 1, 0, 4), PLACE);
        due(38, "shift(0, 3, 1, 0, 3)", x.shift(0, 3, 1, 0, 3), PLACE);
        due(38, "shift(0, -1, 1, 0, 1)", x.shift(0, -1, 1, 0, 1), PLACE);
        due(38, "shift(0, 0, 1, -1, 1)", x.shift(0, 0, 1, -1, 1), PLACE);
        due(38, "shift(0, 0, 1, 0, -1)", x.shift(0, 0, 1, 0, -1), PLACE);
        due(38, "shift(0, MAX, 1, 0, MAX)", x.shift(0, MAX, 1, 0, MAX), PLACE);
        due(38, "shift(0, 1, 1, MAX, 1)", x.shift(0, 1, 1, MAX, 1), PLACE);
        due(38, "shift(0, 0, 2, 0, -1)", x.shift(0, 0, 2, 0, -1), CAST);
        due(38, "shift(0, 0, 3, 0, -1)", x.shift(0, 0, 3, 0, -1), NOTHING);
        due(38, "shift(3, 0, 0, 0, 1)", x.shift(3, 0, 0, 0, 1), NOTHING);
        due(38, "shift(6, 0, 0, 0, 1)", x.shift(6, 0, 0, 0, 1), NONE);
        due(38, "shift(3, 0, 6, 0, 1)", x.shift(3, 0, 6, 0, 1), NONE);
        due(38, "shift(-1, 0, 0, 0, 1)", x.shift(-1, 0, 0, 0, 1), NONE);
        due(38, "read(1, 0)", x.read(1, 0), 2);
        for (int sort = 0; sort < 5; sort++) {
            x.tape(4, sort, 2);
            x.tape(5, sort, 2);
            x.item(4, 0, 1);
            due(38, "shift of sort " + sort, x.shift(4, 0, 5, 1, 1), 1);
            due(38, "read of sort " + sort, x.read(5, 1), 1);
        }
    }
}
