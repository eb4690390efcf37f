import java.io.IOException;
import java.lang.reflect.InvocationTargetException;
import java.lang.reflect.Method;
import java.nio.charset.StandardCharsets;
import java.nio.file.Files;
import java.nio.file.Path;
import java.util.Arrays;
import java.util.HashMap;
import java.util.Map;
import java.util.Set;
import java.util.TreeSet;

/**
 * Each sentence of the document that names a boundary, in the document's order: its words,
 * and calls on both sides of it. What is refused, in which order, and that it changes
 * nothing, stands in RefusalTests.
 */
public final class BoundaryTests {
    private static final int NONE = -1, BAD = -2, STATE = -3, FULL = -4;
    private static final int NOTHING = -11, CAST = -12, PLACE = -13, SIZE = -14;
    private static final long NO = Long.MIN_VALUE;
    private static final int MIN = Integer.MIN_VALUE, MAX = Integer.MAX_VALUE;
    private static final Path DOCUMENT = Path.of("../shared/DOC.md");
    private static final Map<String, Method> METHODS = new HashMap<>();
    private static final Set<String> TOLD = new TreeSet<>();

    private static String document = "";
    private static String sentence = "";
    private static WhyChosen x;
    private static int calls = 0;
    private static int wrong = 0;

    public static void main(String[] args) throws IOException {
        if (Files.isReadable(DOCUMENT)) {
            document = Files.readString(DOCUMENT, StandardCharsets.UTF_8).replaceAll("\\s+", " ");
        }
        for (Method method : WhyChosen.class.getMethods()) {
            METHODS.put(method.getName(), method);
        }
        lifeOfAnObject();
        thingsAndTakers();
        sets();
        choices();
        modelsAndTexts();
        clauses();
        tests();
        nesting();
        faults();
        textsBehindOthers();
        worths();
        timesAndNothing();
        plainOdds();
        nestedAndMixedOdds();
        lookedAndPickedOdds();
        scores();
        gridAndWhich();
        actsThatWrap();
        trace();
        orders();
        fewestAndLike();
        wouldAndMust();
        asks();
        away();
        coins();
        laidOut();
        tapes();
        items();
        sheets();
        shifts();
        newObject();
        promisesOfCalls();
        System.out.println(wrong == 0 ? TOLD.size() + " sentences hold" : wrong + " answers are not as due");
        System.exit(wrong == 0 ? 0 : 1);
    }

    // ---- how the tests are told

    /** The words of the document that the next calls are about. */
    private static void says(String words) {
        sentence = words;
        TOLD.add(words);
        if (!document.isEmpty() && !document.contains(words)) {
            wrong++;
            System.out.println("the document does not say: " + words);
        }
    }

    /** Behind its 512th call what an object answers is free, so that no test may rest on it. */
    private static WhyChosen used() {
        calls++;
        if (calls == 513) {
            wrong++;
            System.out.println("'" + sentence + "': an object is used for more than 512 calls");
        }
        return x;
    }

    private static long call(String line) {
        String[] parts = line.split(" ");
        Method method = METHODS.get(parts[0]);
        Object[] told = new Object[parts.length - 1];
        for (int i = 0; i < told.length; i++) {
            if (method.getParameterTypes()[i] == long.class) {
                told[i] = Long.parseLong(parts[i + 1]);
            } else {
                told[i] = Integer.parseInt(parts[i + 1]);
            }
        }
        try {
            return ((Number) method.invoke(used(), told)).longValue();
        } catch (IllegalAccessException | InvocationTargetException e) {
            throw new IllegalStateException(line, e);
        }
    }

    private static void is(String line, long want) {
        same(line, call(line), want);
    }

    private static void same(String what, long got, long want) {
        if (got != want) {
            wrong++;
            System.out.println("'" + sentence + "': " + what + " answered " + got + ", due is " + want);
        }
    }

    private static void fresh() {
        x = new WhyChosen();
        calls = 0;
    }

    /** Alike things without marks (price 10, nest 0) and one taker of kind 0. */
    private static void things(int n) {
        fresh();
        for (int i = 0; i < n; i++) {
            call("thing 0 10 0");
        }
        call("taker 0");
    }

    /** Things 0 (mark 0, price 20, nest 0), 1 (marks 0 and 1, 30, 0), 2 (mark 1, 10, 1); takers of kinds 0, 1. */
    private static void world() {
        fresh();
        call("thing 1 20 0");
        call("thing 3 30 0");
        call("thing 2 10 1");
        call("taker 0");
        call("taker 1");
    }

    private static void feed(String text) {
        for (int from = 0; from < text.length(); from += 4) {
            int n = Math.min(4, text.length() - from);
            int bytes = 0;
            for (int i = 0; i < n; i++) {
                bytes = bytes << 8 | text.charAt(from + i);
            }
            used().feed(bytes, n);
        }
    }

    private static int tell(int kind, String text) {
        feed(text);
        return used().model(kind);
    }

    private static void reads(String... texts) {
        for (String text : texts) {
            fresh();
            same("the model of '" + text + "'", tell(0, text), 0);
        }
    }

    /** The sign ^ stands ahead of the faulty byte, or at the end of the text. */
    private static void faulty(String... texts) {
        for (String text : texts) {
            fresh();
            int place = text.indexOf('^');
            String told = text.substring(0, place) + text.substring(place + 1);
            same("the model of '" + told + "'", tell(0, told), -10 - place);
            is("count 4", 0);
            is("count 3", 0);
        }
    }

    private static void odds(int model, int thing, int set, int kind, long above, long below) {
        String of = "odds " + model + " " + thing + " " + set + " " + kind;
        is(of + " 0", above);
        is(of + " 1", below);
    }

    // ---- what it is, 1 THINGS

    private static void lifeOfAnObject() {
        says("An object is used for at most 512 calls after it has been made");
        fresh();
        is("thing 1 20 0", 0);
        is("taker 0", 0);
        for (int i = 3; i < 512; i++) {
            is("model 5", -10);
        }
        is("agree 0", 2);
        things(6);
        tell(3, "kind 0 4 2;kind 1 5 3;kind 2 9 4;none 4");
        for (int i = 0; i < 80; i++) {
            is("choice 0 63 " + (i % 7 - 1), i);
        }
        for (int i = 100; i < 511; i++) {
            is("grid 0 6", NONE);
        }
        is("letgo 0", 68);
    }

    private static void thingsAndTakers() {
        says("THINGS 0 .. 5, as they come");
        fresh();
        for (int i = 0; i < 6; i++) {
            is("thing " + i + " " + 10 * i + " 1", i);
        }
        is("thing 6 60 1", FULL);
        is("count 0", 6);
        for (int i = 0; i < 6; i++) {
            is("price " + i + " 1", 10 * i);
        }
        is("price 6 1", NONE);
        says("MARKS (bits 0 .. 7)");
        fresh();
        is("thing -1 1 1", BAD);
        is("thing 0 1 1", 0);
        is("thing 255 1 1", 1);
        is("thing 256 1 1", BAD);
        is("thing " + MIN + " 1 1", BAD);
        is("thing " + MAX + " 1 1", BAD);
        tell(0, "mark 0 1;mark 1 1;mark 2 1;mark 3 1;mark 4 1;mark 5 1;mark 6 1;mark 7 1");
        is("weight 0 0 2", 10);
        is("weight 0 1 2", 18);
        says("a PRICE (0 .. 99)");
        fresh();
        is("thing 1 -1 1", BAD);
        is("thing 1 0 1", 0);
        is("thing 1 99 1", 1);
        is("thing 1 100 1", BAD);
        is("price 0 -1", BAD);
        is("price 0 99", 0);
        is("price 0 100", BAD);
        is("price 0 0", 99);
        is("price 1 " + MAX, BAD);
        is("price 1 " + MIN, BAD);
        is("price 1 1", 99);
        says("a NEST (0 .. 3)");
        fresh();
        is("thing 1 1 -1", BAD);
        is("thing 1 1 0", 0);
        is("thing 1 1 3", 1);
        is("thing 1 1 4", BAD);
        tell(5, "pick n=3");
        odds(0, 1, 3, 0, 1, 1);
        says("TAKERS 0 .. 15, as they come");
        fresh();
        for (int i = 0; i < 16; i++) {
            is("taker " + i % 3, i);
        }
        is("taker 0", FULL);
        is("agree 15", 1);
        is("agree 16", NONE);
        says("a KIND (0 .. 2)");
        things(3);
        is("taker -1", BAD);
        is("taker 3", BAD);
        is("taker 2", 1);
        is("taker 0", 2);
        tell(1, "kind 0 0 2;kind 2 0 3");
        is("weight 0 0 -1", NONE);
        is("weight 0 0 0", 20);
        is("weight 0 2 2", 30);
        is("weight 0 0 3", NONE);
    }

    private static void sets() {
        says("A SET is THINGS as bits.");
        world();
        tell(1, "none 5");
        for (int set : new int[] {8, 15, -1, 64, 128, 1 << 30, MIN, MAX, -8, 256 + 1}) {
            is("choice 0 " + set + " 0", BAD);
            is("choice 0 " + set + " -1", BAD);
            is("odds 0 0 " + set + " 0 0", NO);
            is("would 0 " + set, BAD);
            is("must 0 " + set + " 0", BAD);
            is("ask " + set, BAD);
            is("silly " + set, BAD);
            is("coin 0 " + set, NO);
            is("best 0 0 " + set, BAD);
            is("worse 0 " + set + " 0", BAD);
            is("worse 0 0 " + set, BAD);
        }
        things(6);
        tell(1, "none 5");
        odds(0, 5, 63, 0, 2, 13);
        is("odds 0 5 64 0 0", NO);
        is("ask 63", 0);
        is("ask 64", BAD);
        is("choice 0 63 5", 0);
        is("choice 0 64 -1", BAD);
        is("would 0 63", 32);
        is("would 0 127", BAD);
        is("would 0 128", BAD);
        things(1);
        is("ask 1", 0);
        is("ask 2", BAD);
        things(0);
        is("silly 1", BAD);
        is("silly 0", 0);
        is("ask 1", BAD);
    }

    private static void choices() {
        says("CHOICES 0 .. 79, as they come");
        world();
        for (int i = 0; i < 80; i++) {
            is("choice " + i % 2 + " 7 " + (i % 4 - 1), i);
        }
        is("choice 0 7 0", FULL);
        is("of 79 0", 1);
        is("of 79 2", 2);
        is("of 76 2", -5);
        is("of 80 0", NONE);
        is("put 80 0", NONE);
        is("could 80", NONE);
        is("put 79 2", 0);
        is("choice 0 7 0", FULL);
        is("count 2", 80);
        says("out of a SET (of 1 THING or more), a THING of it TAKEN, or none (-1)");
        world();
        is("choice 0 0 -1", BAD);
        is("choice 0 0 0", BAD);
        is("choice 2 1 0", NONE);
        is("choice -1 1 0", NONE);
        is("choice 0 1 0", 0);
        is("choice 0 1 -1", 1);
        is("choice 0 1 1", BAD);
        is("choice 0 3 2", BAD);
        is("choice 0 7 3", BAD);
        is("choice 0 7 7", BAD);
        is("choice 0 7 -2", BAD);
        is("choice 0 7 -5", BAD);
        is("choice 0 7 32", BAD);
        is("choice 0 7 " + MIN, BAD);
        is("choice 0 7 " + MAX, BAD);
        is("of 0 2", 0);
        is("of 1 2", -5);
        is("count 2", 2);
        says("Each is USED (at first), KEPT back, or LET GO.");
        is("of 0 3", 0);
        is("agree 0", 0);
        is("put 0 1", 0);
        is("agree 0", 12);
        is("put 0 2", 1);
        is("agree 0", 12);
        is("of 0 3", 2);
        is("put 0 0", 2);
        is("agree 0", 0);
    }

    // ---- 2 MODELS

    private static void modelsAndTexts() {
        says("MODELS 0 .. 9, as they come");
        world();
        for (int i = 0; i < 10; i++) {
            same("model " + i, tell(i % 6, "none " + i), i);
            is("weight " + i + " 7 0", i);
        }
        same("model 10", tell(0, "none 1"), FULL);
        is("weight 10 7 0", NONE);
        is("count 3", 10);
        says("of KINDS: 0 MODEL; 1 PLAIN, 5 RULE under MODEL; 2 NESTED, 3 MIXED, 4 LOOKED under PLAIN");
        world();
        feed("none 1");
        is("model -1", NONE);
        is("model 6", NONE);
        is("model " + MIN, NONE);
        is("model 5", 0);
        is("taken 0 5", 5);
        says("TEXTS are read (bytes, 120 at most)");
        String longest = "pick " + "m=1&".repeat(28) + "m=1";
        same("its length", longest.length(), 120);
        world();
        feed(longest);
        is("count 4", 120);
        is("feed 0 1", FULL);
        is("feed 0 0", 120);
        is("model 5", 0);
        odds(0, 2, 7, 0, 1, 1);
        same("one that is longer by an alternative", tell(5, "pick " + "t=9|".repeat(28) + "t=1"), 1);
        odds(1, 1, 7, 0, 1, 1);
        for (int i = 0; i < 120; i++) {
            is("feed " + ('0' + i % 10) + " 1", i + 1);
        }
        is("model 0", -10);
        feed("none 5;".repeat(9) + "pick " + "!!!!m=1&".repeat(6) + "t=00");
        is("count 4", 120);
        is("model 0", -10 - 119);
        feed("none 5;".repeat(9) + "pick " + "!!!!m=1&".repeat(6) + "t=0&");
        is("model 0", -10 - 120);
        says("CLAUSES, 1 to 10, with ; between");
        faulty("^", "^;none 1", "none 1;^", "none 1;^;none 2", "none 1^ ;none 2", "none 1;^ none 2");
        faulty("none 1;".repeat(9) + "none 1^;none 1", "none 1;".repeat(9) + "none 1^;", "none 1;".repeat(9) + "none 1^;;");
        reads("none 1", "none 1;".repeat(9) + "none 1", "none 1;".repeat(8) + "none 1");
    }

    private static void clauses() {
        says("worth t n (t a THING 0 .. 5)");
        reads("worth 0 1", "worth 5 1");
        faulty("worth ^/ 1", "worth ^6 1", "worth ^: 1", "worth ^-1 1", "worth ^x 1");
        says("mark m n (m 0 .. 7)");
        reads("mark 0 1", "mark 7 1");
        faulty("mark ^/ 1", "mark ^8 1", "mark ^9 1", "mark ^: 1");
        says("look n (1 .. 9)");
        reads("look 1", "look 9");
        faulty("look ^0", "look ^:", "look 1^0", "look 9^9", "look 1^ ");
        says("kind k s n (k 0 .. 2, s 0 .. 9)");
        reads("kind 0 0 1", "kind 2 9 1");
        faulty("kind ^/ 0 1", "kind ^3 0 1", "kind 0 ^/ 1", "kind 0 ^: 1", "kind 2 1^0 1", "kind 0 0^");
        says("(one blank ahead of each part behind the word");
        faulty("worth^0 1", "worth 0^1", "worth ^ 0 1", "worth 0 ^ 1", "mark^1 1", "mark 1^1", "mark ^ 1 1", "mark 1 ^ 1",
            "price^1", "price ^ 1", "none^1", "none ^ 1", "look^1", "look ^ 1", "kind^0 1 1", "kind 0^1 1", "kind 0 1^1",
            "kind ^ 0 1 1", "kind 0 ^ 1 1", "kind 0 1 ^ 1", "pick^m=1", "pick ^ m=1", "^ none 1", "none^\t1", "none^_1", "pick^;");
        says("n: 1 to 3 digits");
        for (String clause : new String[] {"worth 0 ", "mark 0 ", "price ", "none ", "kind 0 0 ", "pick p<", "pick p=", "pick p>"}) {
            reads(clause + "0", clause + "9", clause + "00", clause + "99", clause + "000", clause + "007", clause + "999");
            faulty(clause + "^", clause + "^/", clause + "^:", clause + "^-1", clause + "^+1", clause + "9^/", clause + "99^:",
                clause + "999^9", clause + "000^0", clause + "1^ ", clause + "1^.5", clause + "^;none 1");
        }
        says("t, m, k, s and the n of look: one figure");
        faulty("worth 0^0 1", "mark 0^0 1", "kind 0^0 1 1", "kind 0 0^0 1", "look 1^1");
        says("price n; none n");
        world();
        tell(0, "price 010;none 009");
        is("weight 0 7 0", 9);
        is("price 0 1", 20);
        is("weight 0 0 1", 9);
    }

    private static void tests() {
        says("a TEST: m or t or n (NEST) with = and one figure (for m: whether it has that MARK)");
        for (char sign : "mtn".toCharArray()) {
            reads("pick " + sign + "=0", "pick " + sign + "=9");
            faulty("pick " + sign + "^", "pick " + sign + "=^", "pick " + sign + "=^/", "pick " + sign + "=^:", "pick " + sign + "=1^0",
                "pick " + sign + "^<1", "pick " + sign + "^>1", "pick " + sign + "^ =1", "pick " + sign + "=^ 1", "pick " + sign + "^1");
        }
        picks("m=7", 0);
        picks("m=6", 1);
        picks("m=8", 7);
        picks("!m=8&t=1", 1);
        picks("t=6", 7);
        picks("n=3", 0);
        picks("n=4", 7);
        says("or p with < = or > and a number n");
        reads("pick p<0", "pick p=99", "pick p>100", "pick p<999");
        faulty("pick p^", "pick p<^", "pick p^!3", "pick p<^=3", "pick p=^=3", "pick p^;", "pick p>^(3)", "pick ^q=1", "pick ^P<1");
        picks("p<0", 7);
        picks("p<1", 0);
        picks("p<100&t=1", 1);
        picks("p<99&t=1", 7);
        picks("p=99", 1);
        picks("p=0", 0);
        picks("p=98", 7);
        picks("p>98", 1);
        picks("p>99", 7);
        picks("p>0", 1);
        says("E: T or T|E. T: F or F&T. F: !F, (E), or a TEST");
        faulty("pick ^", "pick ^|t=1", "pick ^&t=1", "pick t=1^=", "pick t=1|^", "pick t=1&^", "pick t=1|^|t=2", "pick t=1&^|t=2",
            "pick t=1^!t=2", "pick t=1^(t=2)", "pick (^)", "pick (t=1^", "pick t=1^)", "pick (t=1)^)", "pick (t=1^;t=2)", "pick !^",
            "pick !^)", "pick !^&t=1", "pick t=1^ |t=2", "pick t=1|^ t=2", "pick (^ t=1)", "pick (t=1)^t=2", "pick t^;none 1");
        picks("t=0|t=1&p>99", 0);
        picks("p>99&t=1|t=0", 0);
        picks("(t=1|t=0)&p>0", 1);
        picks("!t=1|t=1", 0);
        picks("!(t=1|t=0)", 7);
        picks("!t=0&!t=1", 7);
    }

    /** Which of two things (mark 7, price 0, nest 3; the other marks, 99, 0) a RULE picks (7: none). */
    private static void picks(String any, int picked) {
        fresh();
        call("thing 128 0 3");
        call("thing 127 99 0");
        same("the model of pick " + any, tell(5, "pick " + any), 0);
        odds(0, 0, 3, 0, picked == 0 ? 1 : 0, 1);
        odds(0, 1, 3, 0, picked == 1 ? 1 : 0, 1);
        odds(0, 7, 3, 0, picked == 7 ? 1 : 0, 1);
    }

    private static void nesting() {
        says("A ( or ! within 4 others is none.");
        reads("pick ((((t=1))))", "pick !!!!t=1", "pick (!(!t=1))", "pick !(!(t=1))", "pick ((t=1)|((t=2)&((t=3))))",
            "pick ((((t=1))))|((((t=2))))&!!!!t=3", "pick (((!t=1&!t=2)|!t=3))");
        faulty("pick ((((^(t=1)))))", "pick !!!!^!t=1", "pick ((((^!t=1))))", "pick !!!!^(t=1)", "pick !(!(^(", "pick (!(!^!t=1))",
            "pick t=1|((((t=2&^(t=3)))))", "pick !!!!t=1&!!!!^!t=1", "pick ((((t=1))))&((((^((t=1))))))", "pick ((((^!");
        faulty("pick ((t=1)|((t=2)&((^(t=3)))))", "pick !(!(t=1)|!(^!t=2))", "pick !(!(^!t=1))");
        picks("t=9|m=7&(t=9|m=7&(t=9|m=7&(t=9|m=7&(t=9|m=7&n=3))))", 0);
        picks("t=9|m=7&(t=9|m=7&(t=9|m=7&(t=9|m=7&(t=9|m=7&n=2))))", 7);
        picks("!!!!t=1", 1);
        picks("!!!t=1", 0);
        picks("!(!(t=1)&!(t=0))&!t=0", 1);
    }

    /** place -1: no fault at all. */
    private static void faultyAt(String text, int place) {
        fresh();
        same("the model of '" + text + "'", tell(5, text), place < 0 ? 0 : -10 - place);
    }

    private static void faults() {
        says("the place of the first byte with which none begins so");
        String text = "worth 5 123;mark 7 45;price 6;none 7;look 9;kind 2 9 99;pick !(m=1|t=2)&n=3|p<12";
        Set<String> whole = Set.of("worth 5 1", "worth 5 12", "worth 5 123", "mark 7 4", "mark 7 45", "price 6", "none 7", "look 9",
            "kind 2 9 9", "kind 2 9 99", "pick !(m=1|t=2)", "pick !(m=1|t=2)&n=3", "pick !(m=1|t=2)&n=3|p<1", "pick !(m=1|t=2)&n=3|p<12");
        for (int place = 0; place < text.length(); place++) {
            for (int sign : new int[] {0, 1, 31, 34, 128, 255, 'A', '~'}) {
                faultyAt(text.substring(0, place) + (char) sign + text.substring(place + 1), place);
                faultyAt(text.substring(0, place) + (char) sign, place);
            }
        }
        faulty("^Worth 1 1", "w^", "wo^n", "wor^k", "wort^x", "m^erk", "ma^k 1 1", "mar^c", "p^a", "pr^ck", "pri^de", "pi^g", "pic^e", "n^ine", "no^de", "non^a", "l^ick", "lo^ck", "loo^p",
            "k^ant", "kin^g", "ki^ck", "none^e", "price^s", "worth^less", "none 1;^x", "none 1;p^x", "none 1;pick t=1;^t=1");
        says("(the end of THE TEXT, if it ends too early)");
        for (int length = 0; length <= text.length(); length++) {
            String start = text.substring(0, length);
            String last = start.substring(start.lastIndexOf(';') + 1);
            faultyAt(start, whole.contains(last) ? -1 : length);
        }
    }

    /** A longer TEXT that came before must not shine through where a shorter one ends. */
    private static void textsBehindOthers() {
        says("THE TEXT, which is empty then, is a MODEL of a KIND: its number.");
        String[] texts = {"worth 5 123", "mark 7 45", "price 6", "none 7", "look 9", "kind 2 9 99", "pick !(m=1|t=2)&n=3|p<12"};
        int[][] whole = {{9, 10, 11}, {8, 9}, {7}, {6}, {6}, {10, 11}, {15, 19, 23, 24}};
        for (int i = 0; i < texts.length; i++) {
            for (int length = 0; length <= texts[i].length(); length++) {
                fresh();
                same("the first model", tell(0, "none 1;" + texts[i] + ";none 1"), 0);
                is("count 4", 0);
                int end = length;
                boolean isWhole = Arrays.stream(whole[i]).anyMatch(n -> n == end);
                String start = texts[i].substring(0, length);
                same("the model of 'none 1;" + start + "' behind", tell(0, "none 1;" + start), isWhole ? 1 : -17 - length);
                is("count 4", 0);
                same("the first model then", tell(0, texts[i] + ";none 1"), isWhole ? 2 : 1);
                same("the model of '" + start + "' behind", tell(0, start), !isWhole ? -10 - length : 3);
                is("count 4", 0);
            }
        }
        world();
        tell(1, "worth 0 20;mark 0 3;price 1;none 5;kind 0 0 2");
        tell(1, "look 1");
        is("weight 1 0 0", 10);
        is("weight 1 7 0", 0);
        is("weight 0 0 0", 42);
        is("weight 0 7 0", 5);
    }

    private static void worths() {
        says("the last worth told of it (10 without)");
        things(6);
        tell(1, "worth 0 7;worth 5 0;worth 1 49;worth 2 50;worth 3 51;worth 0 3;worth 4 999");
        int[] worths = {3, 49, 50, 50, 50, 1};
        for (int thing = 0; thing < 6; thing++) {
            is("weight 0 " + thing + " 2", worths[thing]);
        }
        tell(1, "none 3");
        is("weight 1 0 0", 10);
        is("weight 1 5 0", 10);
        says("the last mark told of each MARK that it has (0 without)");
        fresh();
        call("thing 129 0 0");
        call("thing 126 0 0");
        call("thing 0 0 0");
        tell(1, "mark 0 30;mark 0 3;mark 7 4;mark 1 5");
        is("weight 0 0 1", 17);
        is("weight 0 1 2", 15);
        is("weight 0 2 0", 10);
        tell(1, "mark 0 3;mark 0 0");
        is("weight 1 0 1", 10);
        says("less the last price told (0 without) times its PRICE divided by 10 (cut)");
        things(1);
        tell(1, "price 99;price 1");
        int[] prices = {0, 9, 10, 13, 19, 20, 89, 90, 99};
        int[] less = {0, 0, 1, 1, 1, 2, 8, 9, 9};
        int[] thrice = {0, 2, 3, 3, 5, 6, 9, 9, 9};
        int of3 = tell(1, "price 3");
        int of0 = tell(1, "price 0");
        int of999 = tell(1, "price 999");
        for (int i = 0; i < prices.length; i++) {
            call("price 0 " + prices[i]);
            is("weight 0 0 1", 10 - less[i]);
            is("weight " + of3 + " 0 1", 10 - thrice[i]);
            is("weight " + of0 + " 0 1", 10);
            is("weight " + of999 + " 0 1", i == 0 ? 10 : 1);
        }
        says("1 at least; times the last n told of that KIND by kind");
        call("price 0 99");
        tell(1, "price 999;kind 0 0 7");
        is("weight 4 0 0", 7);
        is("weight 4 0 1", 1);
        tell(1, "worth 0 0;kind 0 0 50");
        is("weight 5 0 0", 50);
        says("50 at most.");
        tell(1, "worth 0 100;price 5");
        is("weight 6 0 0", 50);
        tell(1, "worth 0 100;price 6");
        is("weight 7 0 0", 41);
        tell(1, "worth 0 999;price 096");
        is("weight 8 0 0", 49);
        fresh();
        call("thing 255 0 0");
        tell(1, "mark 0 999;mark 1 999;mark 2 999;mark 3 999;mark 4 999;mark 5 999;worth 0 999;kind 0 9 999");
        is("weight 0 0 0", 50);
        is("weight 0 0 1", 50);
    }

    private static void timesAndNothing() {
        says("(1 without; 1 at least), if the THING's number modulo 3 is that KIND; 50 at most.");
        things(6);
        tell(1, "kind 0 0 9;kind 0 0 2;kind 2 0 0");
        for (int thing = 0; thing < 6; thing++) {
            for (int kind = 0; kind < 3; kind++) {
                is("weight 0 " + thing + " " + kind, thing % 3 == 0 && kind == 0 ? 20 : 10);
            }
        }
        tell(1, "kind 0 0 5;kind 1 0 6;kind 2 0 4");
        is("weight 1 3 0", 50);
        is("weight 1 4 1", 50);
        is("weight 1 5 2", 40);
        tell(1, "worth 0 7;kind 0 0 7");
        is("weight 2 0 0", 49);
        says("NOTHING has the WEIGHT of the last none told (0 without; 50 at most).");
        int[] nones = {0, 49, 50, 51, 999};
        int[] weights = {0, 49, 50, 50, 50};
        for (int i = 0; i < nones.length; i++) {
            same("none " + nones[i], tell(1, "none 7;none " + nones[i] + ";kind 1 5 9"), i + 3);
            for (int kind = 0; kind < 3; kind++) {
                is("weight " + (i + 3) + " 7 " + kind, weights[i]);
            }
        }
        tell(1, "worth 0 1");
        is("weight 8 7 0", 0);
        says("WEIGHT of a THING by a MODEL for a KIND of takers. NONE: model, thing (7: NOTHING), kind.");
        is("weight 8 6 0", NONE);
        is("weight 8 8 0", NONE);
        is("weight 8 -1 0", NONE);
        is("weight 9 7 0", NONE);
        is("weight -1 7 0", NONE);
        is("weight 8 7 3", NONE);
        is("weight 8 7 -1", NONE);
        world();
        tell(1, "none 4");
        is("weight 0 3 0", NONE);
        is("weight 0 7 0", 4);
        things(0);
        tell(1, "none 4");
        is("weight 0 0 0", NONE);
        is("weight 0 7 0", 4);
    }

    private static void plainOdds() {
        says("MODEL: 1 divided by how many there are in the SET (none: 0)");
        things(6);
        tell(0, "worth 0 50;none 50");
        for (int n = 1; n <= 6; n++) {
            odds(0, 0, (1 << n) - 1, 0, 1, n);
            odds(0, 7, (1 << n) - 1, 0, 0, 1);
        }
        says("PLAIN: its WEIGHT divided by the sum of all WEIGHTS in the SET and of that of NOTHING.");
        tell(1, "worth 0 999;worth 1 999;worth 2 999;worth 3 999;worth 4 999;worth 5 999;none 999");
        odds(1, 0, 63, 0, 1, 7);
        odds(1, 7, 63, 0, 1, 7);
        odds(1, 5, 32, 0, 1, 2);
        tell(1, "worth 0 49;none 0");
        odds(2, 0, 63, 1, 49, 99);
        odds(2, 0, 1, 1, 1, 1);
        odds(2, 7, 1, 1, 0, 1);
        says("(Of THINGS not in the SET 0.)");
        for (int kind = 0; kind < 6; kind++) {
            int model = tell(kind, "pick t=0|t=3;none 3;kind 0 1 2");
            odds(model, 3, 55, 0, 0, 1);
            odds(model, 5, 1, 0, 0, 1);
        }
        says("As fractions in lowest terms (0: 0 by 1).");
        things(2);
        tell(1, "worth 0 12;worth 1 18;none 20");
        odds(0, 0, 3, 2, 6, 25);
        odds(0, 1, 3, 2, 9, 25);
        odds(0, 7, 3, 2, 2, 5);
        odds(0, 0, 2, 2, 0, 1);
        says("ODDS of a THING (7: none) in a SET: part 0 above, 1 below the line.");
        is("odds 0 0 3 2 0", 6);
        is("odds 0 0 3 2 1", 25);
        is("odds 0 0 3 2 2", NO);
        is("odds 0 0 3 2 -1", NO);
        is("odds 0 2 3 2 0", NO);
        is("odds 0 6 3 2 0", NO);
        is("odds 0 8 3 2 0", NO);
        is("odds 0 -1 3 2 0", NO);
        is("odds 1 0 3 2 0", NO);
        is("odds -1 0 3 2 0", NO);
        is("odds 0 0 3 3 0", NO);
        is("odds 0 0 3 -1 0", NO);
        says("NO: model, thing, kind, part, SET (0: empty, too).");
        is("odds 0 0 0 0 0", NO);
        is("odds 0 7 0 0 1", NO);
        is("odds 0 7 4 0 1", NO);
        is("odds 0 7 -1 0 1", NO);
    }

    private static void nestedAndMixedOdds() {
        says("(none: the WEIGHT of NOTHING divided by the former sum)");
        world();
        tell(2, "worth 0 20;worth 2 15;none 5");
        odds(0, 7, 7, 2, 1, 8);
        odds(0, 7, 4, 2, 1, 4);
        odds(0, 0, 7, 2, 1, 3);
        odds(0, 1, 7, 2, 1, 6);
        odds(0, 2, 7, 2, 3, 8);
        odds(0, 0, 1, 2, 4, 5);
        tell(2, "none 0");
        odds(1, 7, 7, 2, 0, 1);
        odds(1, 2, 4, 2, 1, 1);
        odds(1, 2, 7, 2, 1, 2);
        odds(1, 1, 7, 2, 1, 4);
        says("the sum of these of all NESTS in it");
        fresh();
        for (int i = 0; i < 6; i++) {
            call("thing 0 0 " + (i < 3 ? 0 : i - 2));
        }
        tell(2, "worth 0 50;worth 1 49;worth 2 48;worth 3 47;worth 4 46;worth 5 45;none 50");
        odds(0, 0, 63, 0, 50 * 50 / 2, 238 * 147 / 2);
        odds(0, 5, 63, 0, 45, 238);
        odds(0, 7, 63, 0, 25, 119);
        odds(0, 2, 62, 0, 49 * 48 / 3, 237 * 97 / 3);
        says("times s (the last s told of k; 0 without) divided by the sum of all three s");
        things(2);
        tell(3, "worth 0 20;kind 0 9 2;kind 0 1 2;kind 1 0 9;none 10");
        odds(0, 0, 1, 0, 4, 5);
        odds(0, 0, 1, 1, 4, 5);
        odds(0, 7, 1, 2, 1, 5);
        tell(3, "worth 0 20;kind 0 1 2;kind 2 9 1;none 10");
        odds(1, 0, 1, 0, 17, 25);
        odds(1, 0, 3, 2, 31, 60);
        odds(1, 1, 2, 1, 1, 2);
        says("if that is 0: as PLAIN");
        tell(3, "worth 0 20;kind 0 0 2;kind 1 0 3;kind 2 0 4;none 10");
        odds(2, 0, 1, 0, 4, 5);
        odds(2, 0, 1, 1, 2, 3);
        tell(3, "worth 0 20;kind 0 9 2;kind 0 0 2;none 10");
        odds(3, 7, 1, 0, 1, 5);
        odds(3, 7, 1, 2, 1, 3);
        tell(3, "none 5");
        odds(4, 1, 3, 0, 2, 5);
        says("MIXED: the sum over KINDS k of PLAIN's for k");
        things(6);
        tell(3, "worth 0 7;worth 1 11;worth 2 13;worth 3 17;worth 4 19;worth 5 23;none 29;kind 0 9 2;kind 1 8 2;kind 2 7 2");
        odds(0, 0, 63, 1, 1731751, 26420680);
        odds(0, 1, 63, 1, 177911, 1801410);
        odds(0, 2, 63, 1, 683473, 6097080);
        odds(0, 5, 63, 1, 15719879, 79262040);
        odds(0, 7, 63, 1, 1291283, 6605170);
    }

    private static void lookedAndPickedOdds() {
        says("the first n (look; all without) by MARKS, those with most of them first, of like ones by numbers (others: 0)");
        fresh();
        int[] marks = {1, 128, 255, 3, 0, 192};
        for (int mark : marks) {
            call("thing " + mark + " 0 0");
        }
        int[] byMarks = {2, 3, 5, 0, 1, 4};
        for (int look = 1; look <= 9; look++) {
            tell(4, "look 3;look " + look);
            int seen = Math.min(look, 6);
            for (int i = 0; i < 6; i++) {
                odds(look - 1, byMarks[i], 63, 0, i < seen ? 1 : 0, i < seen ? seen : 1);
            }
        }
        tell(4, "none 10");
        odds(9, 4, 63, 0, 1, 7);
        odds(0, 1, 18, 0, 1, 1);
        odds(0, 4, 18, 0, 0, 1);
        odds(0, 4, 16, 0, 1, 1);
        odds(1, 1, 51, 0, 0, 1);
        odds(1, 0, 51, 0, 1, 2);
        things(2);
        tell(4, "look 1;none 30");
        odds(0, 0, 3, 0, 1, 4);
        odds(0, 1, 3, 0, 0, 1);
        odds(0, 7, 3, 0, 3, 4);
        says("of the first pick that holds for some THING of the SET of these the one of the least PRICE, of several the least; none, if none holds.");
        fresh();
        for (int price : new int[] {30, 20, 20, 0, 99, 98}) {
            call("thing 0 " + price + " 0");
        }
        tell(5, "pick t=9;pick t=4|t=5;pick p<31&!t=3");
        int[][] picked = {{63, 5}, {31, 4}, {15, 1}, {13, 2}, {1, 0}, {8, 7}, {9, 0}, {48, 5}};
        for (int[] p : picked) {
            for (int thing : new int[] {0, 1, 2, 3, 4, 5, 7}) {
                odds(0, thing, p[0], 1, thing == p[1] ? 1 : 0, 1);
            }
        }
        tell(5, "none 50");
        odds(1, 7, 63, 0, 1, 1);
        odds(1, 3, 63, 0, 0, 1);
        is("price 5 99", 98);
        odds(0, 4, 63, 0, 1, 1);
        odds(0, 5, 63, 0, 0, 1);
    }

    private static void scores() {
        says("ODDS of what was TAKEN by the TAKER's KIND, in thousandths, each cut, together.");
        world();
        tell(1, "worth 0 20");
        call("choice 0 3 0");
        call("choice 1 3 0");
        call("choice 0 3 -1");
        is("score 0 0", 666 + 666);
        is("score 0 1", 0);
        is("put 0 1", 0);
        is("score 0 0", 666);
        is("score 0 1", 666);
        is("put 1 2", 0);
        is("score 0 0", 0);
        tell(1, "worth 0 20;kind 0 0 2");
        is("put 1 1", 2);
        is("score 1 1", 800 + 666);
        things(1);
        tell(1, "worth 0 20");
        tell(0, "worth 0 20");
        tell(5, "pick t=0");
        for (int i = 0; i < 80; i++) {
            call("choice 0 1 0");
        }
        is("score 0 0", 80000);
        is("score 1 0", 80000);
        is("score 2 0", 80000);
        is("misses 2 0", 0);
        says("SCORE by CHOICES that are put so (0 USED, 1 KEPT). NONE.");
        is("score 0 2", NONE);
        is("score 0 -1", NONE);
        is("score 3 0", NONE);
        is("score -1 1", NONE);
        things(1);
        tell(1, "none 1");
        is("score 0 0", 0);
        is("misses 0 0", 0);
        says("MISSES: in how many of these something else of the SET (or none) has greater ODDS.");
        things(3);
        tell(1, "worth 0 20;worth 1 20;none 19");
        tell(1, "worth 0 20;worth 1 20;none 20");
        tell(1, "worth 0 20;worth 1 20;none 21");
        call("choice 0 7 0");
        call("choice 0 7 1");
        call("choice 0 7 2");
        call("choice 0 7 -1");
        is("misses 0 0", 2);
        is("misses 1 0", 1);
        is("misses 2 0", 3);
        call("put 2 1");
        is("misses 2 0", 2);
        is("misses 2 1", 1);
        call("put 0 2");
        is("misses 2 0", 1);
        call("choice 0 4 2");
        is("misses 1 0", 1);
        is("misses 2 0", 2);
        things(2);
        tell(1, "worth 0 11;worth 1 10");
        call("choice 0 3 1");
        is("misses 0 0", 1);
        call("choice 0 2 1");
        is("misses 0 0", 1);
        says("MISSES likewise. NONE.");
        is("misses 0 2", NONE);
        is("misses 0 -1", NONE);
        is("misses 3 0", NONE);
        is("misses -1 0", NONE);
    }

    private static void gridAndWhich() {
        says("the worth 1 .. 30 that, told last, gives a MODEL the greatest SCORE (of USED ones); of several the least.");
        things(2);
        tell(1, "worth 0 50;worth 1 40;worth 0 45");
        is("grid 0 0", 1);
        call("choice 0 3 0");
        is("grid 0 0", 30);
        is("grid 0 1", 1);
        is("weight 0 0 1", 45);
        is("weight 0 1 0", 40);
        tell(1, "kind 0 0 2");
        is("grid 1 0", 25);
        tell(1, "kind 0 0 999");
        is("grid 2 0", 1);
        tell(0, "none 1");
        is("grid 3 0", 1);
        tell(5, "pick t=0");
        is("grid 4 0", 1);
        call("put 0 1");
        is("grid 0 0", 1);
        call("put 0 2");
        is("grid 0 0", 1);
        says("GRID: the worth. NONE: model, thing.");
        is("grid 5 0", NONE);
        is("grid -1 0", NONE);
        is("grid 0 2", NONE);
        is("grid 0 -1", NONE);
        is("grid 0 7", NONE);
        says("that of the greatest SCORE (of KEPT ones; of several the fewest MISSES, then the least)");
        world();
        tell(1, "worth 0 20;worth 1 30");
        tell(1, "worth 0 2;worth 1 3");
        tell(1, "worth 0 12;worth 1 8;none 10");
        tell(1, "worth 0 12;worth 1 18");
        tell(1, "worth 0 13;worth 1 18");
        call("choice 0 3 0");
        is("which 0 4", 0);
        call("put 0 1");
        is("which 0 2", 2);
        is("which 0 1", 0);
        is("which 0 3", 2);
        is("which 3 3", 3);
        is("which 0 4", 4);
        call("put 0 2");
        is("which 0 4", 0);
        is("which 4 4", 4);
        says("NONE: models, a above b.");
        is("which 1 0", NONE);
        is("which 0 5", NONE);
        is("which -1 0", NONE);
        is("which 5 5", NONE);
        is("which -1 -1", NONE);
        is("which " + MIN + " " + MAX, NONE);
    }

    private static void actsThatWrap() {
        says("ACTS of MODELS by KIND, with x (wrapping)");
        world();
        for (int kind = 0; kind < 6; kind++) {
            tell(kind, "none 1;none 2;none 3");
        }
        int c = 3;
        int[] most = {MAX, MIN, MAX - 1, MIN + 1, 1 << 30, -(1 << 30), 715827883, 0, -3};
        for (int i : most) {
            is("act 0 0 " + i, i + c);
            is("act 0 1 " + i, i + c);
            is("act 0 2 " + i, (i + c) * 2);
            is("act 1 0 " + i, i + c);
            is("act 1 1 " + i, i + c - 1 ^ 6);
            is("act 1 2 " + i, (i + c - 1 ^ 6) * 2);
            is("act 2 0 " + i, i * 3 + c);
            is("act 2 1 " + i, i * 3 + c - 2 ^ 6);
            is("act 2 2 " + i, (i * 3 + c - 2 ^ 6) * 2 + (3 + c - 2 ^ 6));
            is("act 3 0 " + i, i + c);
            is("act 3 1 " + i, -(i + c - 3 ^ 6));
            is("act 3 2 " + i, -(i + c - 3 ^ 6) * 2);
            is("act 4 0 " + i, i + c);
            is("act 4 1 " + i, (i + c - 4 ^ 6) + 2 + c);
            is("act 4 2 " + i, ((i - 4 ^ 6) + 2 + c) * 2);
            is("act 5 0 " + i, i + c ^ 5);
            is("act 5 1 " + i, (i + c ^ 5) - 5);
            is("act 5 2 " + i, (i + c ^ 5) - 5 - 2 * ((i + c ^ 5) - 5));
        }
        fresh();
        tell(3, "none 1");
        is("act 0 1 " + (MIN + 5), MIN);
        tell(4, "none 1");
        is("act 1 2 " + MIN, 2 * ((MIN - 1 ^ 6) + 3));
        is("act 0 0 " + MAX, MIN);
    }

    private static void trace() {
        says("THE TRACE: the numbers of the bodies that ran in the latest act(), as they began; the first 20 are kept.");
        int[][][] bodies = {{{10}, {11, 10}, {12, 11, 10}}, {{10}, {20, 11, 10}, {12, 20, 11, 10}},
            {{30, 10}, {20, 11, 30, 10}, {31, 12, 20, 11, 30, 10, 20, 11, 30, 10}}, {{10}, {40, 20, 11, 10}, {12, 40, 20, 11, 10}},
            {{10}, {51, 20, 11, 10, 10}, {50, 12, 51, 20, 11, 10, 10}}, {{60, 10}, {11, 60, 10}, {61, 11, 60, 10, 12, 11, 60, 10}}};
        for (int model = 0; model < 6; model++) {
            oneOfEachKind();
            for (int act = 0; act < 3; act++) {
                call("act " + model + " " + act + " 7");
                is("count 7", bodies[model][act].length);
                for (int i = 0; i < 20; i++) {
                    is("trace " + i, i < bodies[model][act].length ? bodies[model][act][i] : NONE);
                }
                is("trace -1", NONE);
            }
        }
        world();
        tell(2, "none 1");
        says("THE TRACE's i-th body. NONE.");
        is("trace 0", NONE);
        is("act 0 2 1", 2 * (4 ^ 6) + (4 ^ 6));
        is("trace 9", 10);
        is("trace 10", NONE);
        is("trace 20", NONE);
        is("trace " + MAX, NONE);
        is("trace " + MIN, NONE);
        says("0, and no TRACE then: no such MODEL, act.");
        String[] none = {"act 1 0 5", "act -1 0 5", "act 0 3 5", "act 0 -1 5", "act 1 3 5", "act " + MAX + " 0 5", "act 0 " + MIN + " 5"};
        for (String line : none) {
            is("act 0 0 1", 4);
            is("trace 0", 30);
            is(line, 0);
            is("trace 0", NONE);
            is("count 7", 0);
        }
    }

    private static void oneOfEachKind() {
        world();
        for (int kind = 0; kind < 6; kind++) {
            tell(kind, "none 1");
        }
    }

    // ---- 3 ORDERS

    private static void orders() {
        says("(THINGS that there are: 6 at most, so 5,040 ORDERS at most)");
        int all = 1;
        for (int n = 0; n <= 6; n++) {
            all *= n + 1;
            things(n);
            is("count 6", all);
            is("agree 0", all);
        }
        says("if what was TAKEN (NOTHING, if none) stands ahead of all others of the SET and of NOTHING");
        things(1);
        call("choice 0 1 0");
        is("agree 0", 1);
        call("choice 0 1 -1");
        is("agree 0", 0);
        is("put 0 2", 0);
        is("agree 0", 1);
        things(6);
        call("choice 0 63 5");
        is("agree 0", 720);
        call("choice 0 31 4");
        call("choice 0 15 3");
        call("choice 0 7 2");
        call("choice 0 3 1");
        is("agree 0", 2);
        call("choice 0 1 -1");
        is("agree 0", 1);
        things(6);
        call("choice 0 63 -1");
        is("agree 0", 720);
        things(6);
        call("choice 0 1 0");
        is("agree 0", 2520);
        call("choice 0 32 -1");
        is("agree 0", 840);
        says("how many ORDERS AGREE with all its USED CHOICES");
        call("taker 0");
        is("agree 1", 5040);
        call("choice 1 1 -1");
        is("agree 1", 2520);
        is("agree 0", 840);
        is("put 0 1", 0);
        is("agree 0", 2520);
        is("put 1 2", 0);
        is("agree 0", 5040);
        says("AGREEING. NONE.");
        is("agree 2", NONE);
        is("agree -1", NONE);
        is("agree 16", NONE);
    }

    private static void fewestAndLike() {
        says("the fewest of its USED CHOICES that must be LET GO so that some ORDER AGREES with all others");
        things(6);
        is("letgo 0", 0);
        call("choice 0 1 0");
        is("letgo 0", 0);
        call("choice 0 1 -1");
        is("letgo 0", 1);
        call("choice 0 1 -1");
        is("letgo 0", 1);
        call("choice 0 1 0");
        is("letgo 0", 2);
        call("put 0 1");
        is("letgo 0", 1);
        call("put 3 2");
        is("letgo 0", 0);
        things(2);
        call("taker 1");
        for (int i = 0; i < 80; i++) {
            call("choice 0 " + (i < 40 ? "1 0" : "1 -1"));
        }
        is("letgo 0", 40);
        is("letgo 1", 0);
        call("put 0 2");
        is("letgo 0", 39);
        things(6);
        for (int i = 0; i < 6; i++) {
            call("choice 0 " + (1 << i | 1 << (i + 1) % 6) + " " + i);
        }
        is("letgo 0", 1);
        is("agree 0", 0);
        says("FEWEST. NONE.");
        is("letgo 1", NONE);
        is("letgo -1", NONE);
        says("of two TAKERS whether some ORDER AGREES with all USED CHOICES of both");
        things(2);
        call("taker 0");
        is("like 0 1", 1);
        call("choice 0 3 0");
        call("choice 1 3 1");
        is("like 0 1", 0);
        is("like 1 0", 0);
        call("put 1 1");
        is("like 0 1", 1);
        call("put 1 2");
        is("like 1 0", 1);
        call("put 1 0");
        is("like 1 0", 0);
        things(1);
        call("taker 0");
        call("choice 0 1 0");
        is("agree 0", 1);
        is("like 0 1", 1);
        call("choice 0 1 -1");
        is("like 0 1", 0);
        is("like 1 0", 0);
        says("LIKE: 1, 0. NONE; BAD: one TAKER.");
        is("like 0 0", BAD);
        is("like 2 2", NONE);
        is("like 0 2", NONE);
        is("like -1 0", NONE);
        is("like -1 -1", NONE);
    }

    private static void wouldAndMust() {
        says("what a TAKER could take from a SET (bits of THINGS, bit 7: NOTHING) by the ORDERS that AGREE");
        things(6);
        is("would 0 63", 191);
        is("would 0 1", 129);
        is("would 0 32", 160);
        call("choice 0 63 -1");
        is("would 0 63", 128);
        is("would 0 32", 128);
        call("choice 0 32 5");
        is("would 0 1", 0);
        call("put 0 2");
        is("would 0 33", 33);
        is("would 0 63", 63);
        says("WOULD. NONE; BAD: set (not empty).");
        is("would 0 0", BAD);
        is("would 0 64", BAD);
        is("would 0 -1", BAD);
        is("would 1 0", NONE);
        is("would -1 64", NONE);
        says("MUST of a THING out of a SET: how many TAKERS could take nothing else; MAY: how many could take it (both of those TAKERS alone for whom some ORDER AGREES).");
        fresh();
        call("thing 0 0 0");
        call("thing 0 0 0");
        is("must 0 1 0", 0);
        is("must 0 1 1", 0);
        for (int i = 0; i < 16; i++) {
            call("taker 0");
        }
        is("must 0 1 0", 0);
        is("must 0 1 1", 16);
        for (int i = 0; i < 16; i++) {
            call("choice " + i + " 1 0");
        }
        is("must 0 1 0", 16);
        is("must 0 3 0", 0);
        is("must 0 3 1", 16);
        is("must 1 3 1", 16);
        call("choice 0 1 -1");
        is("must 0 1 0", 15);
        is("must 0 1 1", 15);
        call("choice 1 3 1");
        is("must 1 3 0", 1);
        is("must 0 3 1", 14);
        is("must 0 1 0", 15);
        call("put 16 1");
        is("must 0 1 0", 16);
        says("MUST (what 0), MAY (1) of a THING out of a SET. NONE: thing, what; BAD: set (that has it).");
        is("must 2 3 0", NONE);
        is("must -1 3 0", NONE);
        is("must 7 3 0", NONE);
        is("must 0 3 2", NONE);
        is("must 0 3 -1", NONE);
        is("must 0 2 0", BAD);
        is("must 0 0 0", BAD);
        is("must 0 5 0", BAD);
        is("must 0 4 2", NONE);
    }

    private static void asks() {
        says("ASKS: SETS 0 .. 9, as they come");
        things(3);
        for (int i = 0; i < 10; i++) {
            is("ask " + (i % 7 + 1), i);
        }
        is("ask 1", FULL);
        is("count 5", 10);
        says("An ASK: its number. BAD: set (not empty); FULL.");
        is("ask 0", BAD);
        is("ask 8", BAD);
        things(1);
        is("ask 0", BAD);
        is("ask 2", BAD);
        is("ask 1", 0);
        is("ask 1", 1);
        says("the one for which the greatest number of its AGREEING ORDERS that take one and the same from it is least; of several the first");
        things(3);
        is("ask 1", 0);
        is("next 0", 0);
        is("ask 3", 1);
        is("next 0", 1);
        is("ask 5", 2);
        is("next 0", 1);
        is("ask 7", 3);
        is("ask 7", 4);
        is("next 0", 3);
        call("choice 0 7 0");
        is("next 0", 0);
        is("ask 6", 5);
        is("next 0", 5);
        call("choice 0 6 -1");
        is("next 0", 0);
        things(3);
        call("choice 0 4 2");
        is("ask 2", 0);
        is("ask 6", 1);
        is("next 0", 0);
        is("ask 7", 2);
        is("next 0", 2);
        things(3);
        for (int i = 0; i < 9; i++) {
            call("ask 1");
        }
        is("ask 2", 9);
        call("choice 0 1 0");
        is("next 0", 9);
        says("-5: no ASKS, or no ORDER AGREES. NONE.");
        call("choice 0 1 -1");
        is("next 0", -5);
        is("next 1", NONE);
        is("next -1", NONE);
        call("put 1 2");
        is("next 0", 9);
        things(3);
        is("next 0", -5);
        is("next 1", NONE);
        says("a SET in which some THING has all MARKS of each other one, and no greater PRICE (of 2 THINGS or more)");
        fresh();
        call("thing 3 10 0");
        call("thing 1 10 0");
        call("thing 2 9 0");
        call("thing 255 99 0");
        call("thing 255 99 0");
        is("silly 3", 1);
        is("silly 5", 0);
        is("silly 6", 0);
        is("silly 1", 0);
        is("silly 8", 0);
        is("silly 24", 1);
        is("silly 9", 0);
        is("silly 31", 0);
        is("price 3 9", 99);
        is("silly 31", 1);
        is("silly 15", 1);
        is("price 3 10", 9);
        is("silly 31", 0);
        is("silly 27", 1);
        is("price 0 11", 10);
        is("silly 3", 0);
        is("price 1 11", 10);
        is("silly 3", 1);
        says("Whether a SET is SILLY: 1, 0 (an empty one, too). BAD: set.");
        is("silly 0", 0);
        is("silly 32", BAD);
        is("silly -1", BAD);
        says("of the ASKS, how many have all of a CHOICE's SET");
        things(6);
        call("choice 0 33 0");
        is("could 0", 0);
        is("ask 1", 0);
        is("ask 32", 1);
        is("could 0", 0);
        is("ask 33", 2);
        is("could 0", 1);
        is("ask 63", 3);
        is("ask 30", 4);
        is("could 0", 2);
        call("put 0 2");
        is("could 0", 2);
        things(1);
        call("choice 0 1 -1");
        is("could 0", 0);
        is("ask 1", 0);
        is("could 0", 1);
        says("COULD BE. NONE: choice.");
        is("could 1", NONE);
        is("could -1", NONE);
    }

    private static void away() {
        says("over USED CHOICES with both in the SET, and over those with a but not b: in how many a was TAKEN, and how many there are");
        things(3);
        call("choice 0 3 0");
        call("choice 0 3 1");
        call("choice 0 7 -1");
        call("choice 0 1 0");
        call("choice 0 5 2");
        call("choice 0 2 1");
        call("choice 0 4 -1");
        int[] zeroOne = {1, 3, 1, 2, 1};
        int[] oneZero = {1, 3, 1, 1, 1};
        int[] zeroTwo = {0, 2, 2, 3, 1};
        for (int what = 0; what < 5; what++) {
            is("away 0 1 " + what, zeroOne[what]);
            is("away 1 0 " + what, oneZero[what]);
            is("away 0 2 " + what, zeroTwo[what]);
        }
        call("put 3 1");
        is("away 0 1 2", 0);
        is("away 0 1 3", 1);
        call("put 3 2");
        is("away 0 1 3", 1);
        call("put 1 2");
        is("away 0 1 1", 2);
        says("4 whether its share without b is greater (1), as great (0) or less (-5; -6: one of them is of none)");
        is("away 0 1 4", -5);
        things(2);
        is("away 0 1 4", -6);
        call("choice 0 3 1");
        is("away 0 1 4", -6);
        is("away 1 0 4", -6);
        call("choice 0 1 -1");
        is("away 0 1 4", 0);
        call("choice 0 3 0");
        is("away 0 1 4", -5);
        call("choice 0 1 0");
        is("away 0 1 4", 0);
        call("choice 0 1 0");
        is("away 0 1 4", 1);
        call("put 0 1");
        is("away 0 1 4", -5);
        call("put 2 1");
        is("away 0 1 4", -6);
        call("put 0 0");
        is("away 0 1 4", 1);
        says("NONE: things, what; BAD: one THING.");
        is("away 0 0 0", BAD);
        is("away 0 0 5", NONE);
        is("away 2 2 0", NONE);
        is("away 2 0 0", NONE);
        is("away 0 2 0", NONE);
        is("away -1 0 0", NONE);
        is("away 0 1 5", NONE);
        is("away 0 1 -1", NONE);
        is("away 0 7 0", NONE);
    }

    // ---- 4 LAID

    private static void coins() {
        says("over all TAKERS, for each THING of the SET its PRICE times (ODDS for the TAKER's KIND in thousandths, cut)");
        world();
        tell(0, "none 1");
        is("coin 0 7", 2 * 333 * 60);
        is("coin 0 4", 2 * 1000 * 10);
        tell(1, "kind 0 0 2;kind 1 0 3");
        is("coin 1 3", 20 * 666 + 30 * 333 + 20 * 250 + 30 * 750);
        call("taker 1");
        is("coin 1 3", 20 * 666 + 30 * 333 + 2 * (20 * 250 + 30 * 750));
        fresh();
        call("thing 0 99 0");
        tell(1, "none 0");
        is("coin 0 1", 0);
        for (int i = 0; i < 16; i++) {
            call("taker 2");
        }
        is("coin 0 1", 16L * 99 * 1000);
        is("price 0 0", 99);
        is("coin 0 1", 0);
        says("COIN. NO: model, set (an empty one: 0).");
        is("coin 0 0", 0);
        is("coin 0 2", NO);
        is("coin 0 -1", NO);
        is("coin 1 1", NO);
        is("coin -1 0", NO);
        says("the SET of at most n THINGS of most COIN; of several that of the fewest, then the least as bits");
        things(6);
        tell(1, "none 10");
        int[] least = {0, 1, 3, 7, 15, 31, 63};
        for (int n = 0; n <= 6; n++) {
            is("lay 0 " + n, least[n]);
        }
        tell(5, "pick t=3");
        is("lay 1 0", 0);
        is("lay 1 1", 8);
        is("lay 1 6", 8);
        tell(5, "none 1");
        is("lay 2 6", 0);
        tell(0, "none 1");
        is("lay 3 6", 1);
        is("price 5 11", 10);
        is("lay 3 6", 32);
        fresh();
        call("thing 0 2 1");
        call("thing 2 2 1");
        call("thing 3 1 0");
        call("thing 3 2 1");
        call("taker 2");
        call("taker 2");
        call("taker 0");
        tell(2, "worth 0 13;worth 1 17;worth 2 13;worth 3 17;none 9;kind 0 1 4;kind 1 1 3");
        is("coin 0 3", 4306);
        is("coin 0 8", 4306);
        is("lay 0 6", 8);
        fresh();
        call("thing 0 9 0");
        tell(1, "none 1");
        is("lay 0 6", 0);
        call("taker 0");
        is("lay 0 6", 1);
        is("price 0 0", 9);
        is("lay 0 6", 0);
        things(0);
        tell(1, "none 1");
        is("lay 0 6", 0);
        says("LAY. NONE: model; BAD: n (0 .. 6).");
        is("lay 0 7", BAD);
        is("lay 0 -1", BAD);
        is("lay 0 0", 0);
        is("lay 0 " + MAX, BAD);
        is("lay 1 7", NONE);
        is("lay -1 0", NONE);
    }

    private static void laidOut() {
        says("0 .. 99 with which COIN is greatest; of several the least");
        world();
        tell(1, "none 10");
        is("best 0 0 1", 99);
        tell(5, "pick t=0&p<1");
        is("best 1 0 1", 0);
        tell(5, "pick t=0&p>98");
        is("best 2 0 1", 99);
        tell(5, "pick t=0&p<50");
        is("best 3 0 7", 49);
        tell(5, "pick t=1");
        is("best 4 0 3", 0);
        tell(1, "worth 0 30;price 50;none 1");
        is("best 5 0 1", 99);
        tell(1, "worth 0 20;price 10;none 20");
        is("price 0 33", 20);
        is("best 6 0 1", 99);
        tell(1, "worth 0 999;price 100;none 50");
        is("best 7 0 1", 94);
        is("price 0 20", 33);
        fresh();
        call("thing 0 50 0");
        tell(1, "none 1");
        is("best 0 0 1", 0);
        is("price 0 1", 50);
        says("BEST PRICE. NONE: model, thing; BAD: set (that has it).");
        world();
        tell(1, "none 10");
        is("best 0 0 2", BAD);
        is("best 0 0 0", BAD);
        is("best 0 0 9", BAD);
        is("best 0 0 -1", BAD);
        is("best 0 3 8", NONE);
        is("best 0 -1 1", NONE);
        is("best 0 7 1", NONE);
        is("best 1 0 1", NONE);
        is("best -1 3 0", NONE);
        says("how many TAKERS have a less greatest WEIGHT (for their KIND) in one SET than in another one (of an empty one 0)");
        tell(1, "price 999;none 50");
        is("worse 1 0 4", 2);
        is("worse 1 4 0", 0);
        is("worse 1 0 0", 0);
        is("worse 1 1 6", 0);
        tell(1, "worth 0 11;kind 1 0 2");
        is("worse 2 2 1", 1);
        is("worse 2 1 2", 1);
        is("worse 2 4 3", 2);
        is("worse 2 3 3", 0);
        is("worse 2 4 2", 1);
        world();
        for (int kind = 0; kind < 6; kind++) {
            int model = tell(kind, "worth 0 11;worth 1 12;kind 0 3 2;look 1;pick t=0");
            is("worse " + model + " 2 1", 1);
            is("worse " + model + " 4 3", 2);
            is("worse " + model + " 3 4", 0);
        }
        fresh();
        call("thing 0 0 0");
        tell(1, "none 1");
        is("worse 0 0 1", 0);
        for (int i = 0; i < 16; i++) {
            call("taker " + i % 3);
        }
        is("worse 0 0 1", 16);
        says("WORSE in a SET than in another one (either may be empty). NONE: model; BAD: sets (THINGS that there are not).");
        is("worse 0 0 0", 0);
        is("worse 0 2 0", BAD);
        is("worse 0 0 2", BAD);
        is("worse 0 -1 0", BAD);
        is("worse 0 0 -1", BAD);
        is("worse 1 2 2", NONE);
        is("worse -1 0 0", NONE);
    }

    // ---- 5 TAPES

    private static void tapes() {
        says("TAPES 0 .. 5 hold nothing (at first), or a row of 0 bytes, 1 shorts, 2 ints, 3 longs, 4 booleans (items 0, 1).");
        fresh();
        for (int tape = 0; tape < 6; tape++) {
            is("read " + tape + " 0", NO);
            is("item " + tape + " 0 1", NOTHING);
            is("shift " + tape + " 0 " + tape + " 0 0", NOTHING);
        }
        is("item 6 0 1", NONE);
        is("item -1 0 1", NONE);
        is("tape 6 0 1", NONE);
        is("tape -1 0 1", NONE);
        is("tape 5 4 1", 1);
        is("read 5 0", 0);
        is("read 6 0", NO);
        says("A TAPE becomes a row of n (0 .. 60) of a sort, all 0, or holds nothing (sort -1: n does not matter): 1.");
        for (int sort = 0; sort < 5; sort++) {
            is("tape 0 " + sort + " 0", 1);
            is("read 0 0", NO);
            is("item 0 0 1", PLACE);
            is("shift 0 0 0 0 0", 0);
            is("tape 0 " + sort + " 60", 1);
            for (int i = 0; i < 60; i++) {
                is("item 0 " + i + " 1", 1);
            }
            is("item 0 60 1", PLACE);
            is("read 0 60", NO);
            is("tape 0 " + sort + " 60", 1);
            is("read 0 0", 0);
            is("read 0 59", 0);
            is("item 0 59 1", 1);
            is("tape 0 " + sort + " 59", 1);
            is("read 0 59", NO);
            is("tape 0 " + sort + " 60", 1);
            is("read 0 59", 0);
            if (sort < 4) {
                fresh();
            }
        }
        for (int n : new int[] {0, 60, 61, -1, MIN, MAX}) {
            is("tape 0 0 1", 1);
            is("tape 0 -1 " + n, 1);
            is("read 0 0", NO);
            is("item 0 0 1", NOTHING);
        }
        says("NONE: tape; BAD: sort, n above 60; SIZE.");
        is("tape 0 0 61", BAD);
        is("tape 0 4 " + MAX, BAD);
        is("tape 0 5 0", BAD);
        is("tape 0 -2 0", BAD);
        is("tape 0 0 -1", SIZE);
        is("tape 0 4 " + MIN, SIZE);
        is("tape 0 5 -1", BAD);
        is("tape 0 -2 -1", BAD);
        is("tape 6 5 61", NONE);
        is("tape -1 5 -1", NONE);
        is("item 0 0 1", NOTHING);
    }

    private static void items() {
        says("Item i of a TAPE becomes v (its lowest bits, as many as an item has; booleans: whether v is not 0): 1.");
        fresh();
        for (int sort = 0; sort < 5; sort++) {
            is("tape " + sort + " " + sort + " 2", 1);
        }
        long[] values = {0, 1, -1, 2, 127, 128, 255, 256, -128, -129, 32767, 32768, 65535, 65536, -32769, MAX, 1L + MAX, MIN, -1L + MIN,
            1L << 32, (1L << 32) - 1, 1L << 33 | 5, Long.MAX_VALUE, Long.MIN_VALUE};
        for (long v : values) {
            long[] kept = {(byte) v, (short) v, (int) v, v, v == 0 ? 0 : 1};
            for (int sort = 0; sort < 5; sort++) {
                is("item " + sort + " 1 " + v, 1);
                is("read " + sort + " 1", kept[sort]);
            }
        }
        is("read 0 0", 0);
        is("read 4 0", 0);
        says("NONE; NOTHING; PLACE.");
        is("item 0 2 1", PLACE);
        is("item 0 -1 1", PLACE);
        is("item 0 60 1", PLACE);
        is("item 0 " + MAX + " 1", PLACE);
        is("item 0 " + MIN + " 1", PLACE);
        is("item 5 0 1", NOTHING);
        is("item 5 -1 1", NOTHING);
        is("item 6 0 1", NONE);
        is("item -1 -1 1", NONE);
        says("Item i of a TAPE. NO: no such TAPE, nothing there, no such place.");
        is("read 0 2", NO);
        is("read 0 -1", NO);
        is("read 0 " + MAX, NO);
        is("read 0 " + MIN, NO);
        is("read 5 0", NO);
        is("read 6 0", NO);
        is("read -1 0", NO);
    }

    private static void sheets() {
        says("n (1 .. 20) CHOICES of a TAKER: 100 times how many came, and how many are LOST");
        things(6);
        is("tape 0 3 60", 1);
        for (int i = 0; i < 60; i++) {
            is("item 0 " + i + " 6306", 1);
        }
        is("sheet 0 0 0 0", BAD);
        is("sheet 0 0 -1 0", BAD);
        is("sheet 0 0 21 0", BAD);
        is("sheet 0 0 " + MAX + " 0", BAD);
        is("sheet 0 0 1 0", 100);
        is("sheet 0 0 20 0", 2000);
        is("sheet 0 40 20 0", 2000);
        is("sheet 0 41 20 0", 1901);
        is("sheet 0 59 20 0", 119);
        is("count 2", 61);
        is("sheet 0 20 20 0", 1901);
        is("sheet 0 20 20 0", 20);
        is("count 2", 80);
        is("of 79 2", 5);
        says("each number 100 times the SET, and more by what was TAKEN and 1 (0: none; numbers below 0 can't be told)");
        things(6);
        call("taker 2");
        is("tape 0 3 40", 1);
        long[] good = {100, 101, 6300, 6301, 6306, 3200, 3206, 202, 200};
        int[][] told = {{1, -5}, {1, 0}, {63, -5}, {63, 0}, {63, 5}, {32, -5}, {32, 5}, {2, 1}, {2, -5}};
        for (int i = 0; i < good.length; i++) {
            is("item 0 " + i + " " + good[i], 1);
        }
        is("sheet 0 0 " + good.length + " 1", 100L * good.length);
        for (int i = 0; i < good.length; i++) {
            is("of " + i + " 0", 1);
            is("of " + i + " 1", told[i][0]);
            is("of " + i + " 2", told[i][1]);
            is("of " + i + " 3", 0);
        }
        says("one that can't be told is LOST");
        long[] lost = {-1, -100, -101, -99, 0, 1, 99, 102, 201, 103, 107, 108, 132, 133, 199, 6307, 6399, 6400, 6401, 6506, 12800, 12900,
            100L << 32 | 1, (1L << 32) * 100 + 101, (1L << 32) + 101, Long.MAX_VALUE, Long.MIN_VALUE, Long.MIN_VALUE + 101};
        for (int i = 0; i < lost.length; i++) {
            is("item 0 " + i + " " + lost[i], 1);
        }
        is("sheet 0 0 20 1", 20);
        is("sheet 0 20 " + (lost.length - 20) + " 1", lost.length - 20);
        is("count 2", good.length);
        is("item 0 1 101", 1);
        is("item 0 3 6306", 1);
        is("sheet 0 0 5 0", 203);
        is("of " + (good.length + 1) + " 2", 5);
        world();
        is("tape 0 3 2", 1);
        is("item 0 0 800", 1);
        is("item 0 1 704", 1);
        is("sheet 0 0 2 0", 2);
        is("item 0 0 700", 1);
        is("item 0 1 703", 1);
        is("sheet 0 0 2 0", 200);
        says("so are all from where the row is missing or ends (all, if the place told is below 0, or the TAPE holds nothing)");
        is("sheet 0 1 2 0", 101);
        is("sheet 0 2 1 0", 1);
        is("sheet 0 2 20 0", 20);
        is("sheet 0 3 4 0", 4);
        is("sheet 0 60 4 0", 4);
        is("sheet 0 " + MAX + " 20 0", 20);
        is("sheet 0 " + (MAX - 19) + " 20 0", 20);
        is("sheet 0 -1 2 0", 2);
        is("sheet 0 -1 20 0", 20);
        is("sheet 0 " + MIN + " 3 0", 3);
        is("sheet 1 0 20 0", 20);
        is("sheet 1 -1 1 0", 1);
        is("tape 0 3 0", 1);
        is("sheet 0 0 7 0", 7);
        is("tape 0 3 2", 1);
        is("item 0 0 700", 1);
        is("tape 0 -1 2", 1);
        is("sheet 0 0 7 0", 7);
        is("count 2", 3);
        says("NONE: tape, taker; BAD: n; CAST: it is no row of longs.");
        for (int sort = 0; sort < 5; sort++) {
            is("tape 0 " + sort + " 3", 1);
            is("sheet 0 0 1 0", sort == 3 ? 1 : CAST);
            is("sheet 0 -1 1 0", sort == 3 ? 1 : CAST);
            is("sheet 0 3 1 0", sort == 3 ? 1 : CAST);
            is("sheet 0 0 21 0", BAD);
            is("tape 0 " + sort + " 0", 1);
            is("sheet 0 0 2 0", sort == 3 ? 2 : CAST);
        }
        is("sheet 6 0 0 0", NONE);
        is("sheet -1 0 1 0", NONE);
        is("sheet 0 0 1 2", NONE);
        is("sheet 0 0 1 -1", NONE);
        is("sheet 0 0 0 16", NONE);
    }

    private static void row(int tape, int... items) {
        is("tape " + tape + " 2 " + items.length, 1);
        for (int i = 0; i < items.length; i++) {
            is("item " + tape + " " + i + " " + items[i], 1);
        }
    }

    private static void holds(int tape, int... items) {
        for (int i = 0; i < items.length; i++) {
            is("read " + tape + " " + i, items[i]);
        }
        is("read " + tape + " " + items.length, NO);
    }

    private static void shifts() {
        says("n items of a TAPE from i on come to another one (or the same) from j on, as they all were before: n.");
        fresh();
        row(0, 1, 2, 3, 4, 5);
        row(1, 6, 7, 8);
        is("shift 0 2 1 0 3", 3);
        holds(1, 3, 4, 5);
        holds(0, 1, 2, 3, 4, 5);
        is("shift 0 0 0 1 4", 4);
        holds(0, 1, 1, 2, 3, 4);
        is("shift 0 1 0 0 4", 4);
        holds(0, 1, 2, 3, 4, 4);
        is("shift 0 0 0 0 5", 5);
        holds(0, 1, 2, 3, 4, 4);
        is("shift 1 2 0 4 1", 1);
        holds(0, 1, 2, 3, 4, 5);
        is("shift 0 5 1 3 0", 0);
        is("shift 0 0 1 0 0", 0);
        holds(1, 3, 4, 5);
        is("tape 2 3 60", 1);
        is("tape 3 3 60", 1);
        is("item 2 0 " + Long.MIN_VALUE, 1);
        is("item 2 59 " + Long.MAX_VALUE, 1);
        is("shift 2 0 3 0 60", 60);
        is("read 3 0", Long.MIN_VALUE);
        is("read 3 59", Long.MAX_VALUE);
        says("NONE: tapes; NOTHING; CAST: of unlike sorts; PLACE: n, i or j is below 0, or beyond either's end.");
        is("shift 0 0 1 0 4", PLACE);
        is("shift 0 3 1 0 3", PLACE);
        is("shift 1 0 0 3 3", PLACE);
        is("shift 0 6 1 0 0", PLACE);
        is("shift 0 0 1 4 0", PLACE);
        is("shift 0 -1 1 0 1", PLACE);
        is("shift 0 0 1 -1 1", PLACE);
        is("shift 0 0 1 0 -1", PLACE);
        is("shift 0 5 1 3 -1", PLACE);
        is("shift 0 -1 1 0 0", PLACE);
        is("shift 0 " + MAX + " 1 0 1", PLACE);
        is("shift 0 0 1 " + MAX + " 1", PLACE);
        is("shift 0 0 1 0 " + MAX, PLACE);
        is("shift 0 " + MAX + " 1 " + MAX + " " + MAX, PLACE);
        is("shift 0 " + MIN + " 1 0 0", PLACE);
        is("shift 0 0 1 " + MIN + " 0", PLACE);
        is("shift 0 0 1 0 " + MIN, PLACE);
        is("shift 0 1 0 2 4", PLACE);
        holds(0, 1, 2, 3, 4, 5);
        holds(1, 3, 4, 5);
        is("shift 0 0 2 0 1", CAST);
        is("shift 2 0 0 0 0", CAST);
        is("shift 0 -1 2 0 1", CAST);
        is("shift 0 0 2 0 61", CAST);
        is("shift 0 0 4 0 1", NOTHING);
        is("shift 4 0 0 0 1", NOTHING);
        is("shift 4 -1 5 0 1", NOTHING);
        is("shift 6 0 0 0 1", NONE);
        is("shift 0 0 6 0 1", NONE);
        is("shift -1 0 4 0 1", NONE);
        is("shift 4 0 -1 0 1", NONE);
        for (int a = 0; a < 5; a++) {
            for (int b = 0; b < 5; b++) {
                is("tape 0 " + a + " 1", 1);
                is("tape 1 " + b + " 1", 1);
                is("item 0 0 1", 1);
                is("shift 0 0 1 0 1", a == b ? 1 : CAST);
                is("read 1 0", a == b ? 1 : 0);
            }
        }
    }

    // ---- the promises

    private static void newObject() {
        says("`NO = Long.MIN_VALUE`: There is no such number.");
        same("NO", WhyChosen.NO, NO);
        says("Answers: NONE (-1) no such number; BAD (-2) a number is not as told; STATE (-3) as told; FULL (-4)");
        same("NONE", WhyChosen.NONE, NONE);
        same("BAD", WhyChosen.BAD, BAD);
        same("STATE", WhyChosen.STATE, STATE);
        same("FULL", WhyChosen.FULL, FULL);
        says("No THINGS, no TAKERS.");
        fresh();
        int[] counts = {0, 0, 0, 0, 0, 0, 1, 0};
        for (int what = 0; what < 8; what++) {
            is("count " + what, counts[what]);
        }
        is("thing 0 0 0", 0);
        is("taker 0", 0);
        fresh();
        is("count 0", 0);
        is("price 0 0", NONE);
        is("agree 0", NONE);
    }

    private static void promisesOfCalls() {
        says("A THING: its number. BAD: marks, price, nest; STATE: there are CHOICES or ASKS; FULL.");
        things(1);
        call("ask 1");
        is("thing 0 0 0", STATE);
        is("thing 0 100 0", BAD);
        things(1);
        call("choice 0 1 0");
        is("thing 0 0 0", STATE);
        call("put 0 2");
        is("thing 0 0 0", STATE);
        things(6);
        is("thing 0 0 0", FULL);
        call("ask 1");
        is("thing 0 0 0", STATE);
        says("PRICE of a THING: what it was. NONE; BAD.");
        things(1);
        is("price 0 99", 10);
        is("price 0 100", BAD);
        is("price 0 99", 99);
        is("price 1 100", NONE);
        is("price -1 0", NONE);
        says("A TAKER: its number. BAD: kind; FULL.");
        fresh();
        is("taker 3", BAD);
        for (int i = 0; i < 16; i++) {
            is("taker 2", i);
        }
        is("taker 2", FULL);
        is("taker 3", BAD);
        is("taker -1", BAD);
        is("count 1", 16);
        says("A CHOICE: its number. NONE: taker; BAD: set, taken; FULL.");
        things(1);
        is("choice 1 0 1", NONE);
        is("choice -1 1 0", NONE);
        is("choice 0 0 -1", BAD);
        is("choice 0 2 1", BAD);
        is("choice 0 1 1", BAD);
        for (int i = 0; i < 80; i++) {
            is("choice 0 1 " + (i % 2 - 1), i);
        }
        is("choice 0 1 0", FULL);
        is("choice 0 1 1", BAD);
        is("choice 0 2 0", BAD);
        is("choice 1 1 0", NONE);
        says("A CHOICE becomes USED (0), KEPT (1), LET GO (2): what it was. NONE: choice; BAD.");
        things(1);
        call("choice 0 1 0");
        is("put 0 2", 0);
        is("put 0 3", BAD);
        is("put 0 -1", BAD);
        is("put 0 1", 2);
        is("put 1 3", NONE);
        is("put -1 0", NONE);
        is("put 0 0", 1);
        says("what 0 TAKER, 1 SET, 2 what was TAKEN (-5: none), 3 how it is put. NONE.");
        is("of 0 -1", NONE);
        is("of 0 0", 0);
        is("of 0 3", 0);
        is("of 0 4", NONE);
        is("of 1 0", NONE);
        is("of -1 0", NONE);
        says("The n lowest bytes of a number, the highest first (n 0 .. 4), come behind THE TEXT's: how many it has. BAD; FULL.");
        things(1);
        is("feed 0 -1", BAD);
        is("feed 0 5", BAD);
        is("feed 0 " + MIN, BAD);
        is("feed 7 0", 0);
        feed("pick");
        is("feed " + (0x12345600 | ' ') + " 1", 5);
        is("feed " + ('x' << 24 | 'm' << 16 | '=' << 8 | '1') + " 3", 8);
        is("model 1", 0);
        is("feed " + ('n' << 24 | 'o' << 16 | 'n' << 8 | 'e') + " 4", 4);
        is("feed " + (' ' << 8 | '5') + " 2", 6);
        is("model 1", 1);
        is("weight 1 7 0", 5);
        is("feed -1 4", 4);
        is("model 1", -10);
        feed("none 5");
        is("feed " + (';' << 8 | 255) + " 2", 8);
        is("model 1", -17);
        for (int length = 117; length <= 120; length++) {
            fresh();
            feed("0".repeat(length));
            for (int n = 4; n >= 0; n--) {
                if (length + n > 120) {
                    is("feed 1 " + n, FULL);
                    is("count 4", length);
                }
            }
            is("feed 1 " + (120 - length), 120);
            is("feed 1 1", FULL);
            is("feed 1 5", BAD);
        }
        says("NONE: kind; FULL: there are 10 (THE TEXT stays with both); -10 less the FAULT.");
        world();
        feed("none 7");
        is("model 6", NONE);
        is("model -1", NONE);
        is("count 4", 6);
        is("model 1", 0);
        is("count 4", 0);
        for (int i = 1; i < 10; i++) {
            same("a further model", tell(1, "none 7"), i);
        }
        feed("none 8");
        is("model 1", FULL);
        is("count 4", 6);
        is("model 6", NONE);
        is("feed 0 0", 6);
        is("count 3", 10);
        says("A MODEL taken for one of KIND k (0 .. 5), or one under that: its KIND. BAD: k; NOTHING: no such MODEL; CAST.");
        oneOfEachKind();
        boolean[][] under = {{true}, {true, true}, {true, true, true}, {true, true, false, true}, {true, true, false, false, true},
            {true, false, false, false, false, true}};
        for (int kind = 0; kind < 6; kind++) {
            for (int k = 0; k < 6; k++) {
                is("taken " + kind + " " + k, k < under[kind].length && under[kind][k] ? kind : CAST);
            }
        }
        is("taken 0 6", BAD);
        is("taken 0 -1", BAD);
        is("taken 6 6", BAD);
        is("taken 6 5", NOTHING);
        is("taken -1 0", NOTHING);
        says("7 bodies that ran in the latest act() (all, kept or not). BAD.");
        is("count 7", 0);
        is("act 2 2 5", 2 * (14 ^ 6) + (2 ^ 6));
        is("count 7", 10);
        is("count 8", BAD);
        is("count -1", BAD);
        is("count " + MAX, BAD);
        is("count " + MIN, BAD);
    }
}
