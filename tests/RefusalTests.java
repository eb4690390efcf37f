import java.lang.reflect.InvocationTargetException;
import java.lang.reflect.Method;
import java.util.ArrayList;
import java.util.Arrays;
import java.util.HashMap;
import java.util.List;
import java.util.Map;

/**
 * "The first that a call's words name. What is answered so changes nothing": which refusal
 * comes first, that a refused call leaves all as it was, that a call which only asks does
 * so too, and that no arguments make the machine throw.
 */
public final class RefusalTests {
    private static final int NONE = -1, BAD = -2, STATE = -3, FULL = -4;
    private static final int NOTHING = -11, CAST = -12, PLACE = -13, SIZE = -14;
    private static final long NO = Long.MIN_VALUE;
    private static final int MIN = Integer.MIN_VALUE, MAX = Integer.MAX_VALUE;
    private static final Map<String, Method> METHODS = new HashMap<>();
    private static final List<String> TELLING = List.of("thing", "price", "taker", "choice", "put", "feed", "model", "ask", "act",
        "sheet", "tape", "item", "shift");
    private static int wrong = 0;

    public static void main(String[] args) {
        for (Method method : WhyChosen.class.getDeclaredMethods()) {
            if (java.lang.reflect.Modifier.isPublic(method.getModifiers())) {
                METHODS.put(method.getName(), method);
            }
        }
        refusalsOfMany();
        refusalsOfFull();
        refusalsOfEmpty();
        for (String name : METHODS.keySet()) {
            nothingChanges(name, manyThings());
            nothingChanges(name, new String[0]);
        }
        nothingThrows();
        System.out.println(wrong == 0 ? "all that is refused is refused" : wrong + " refusals are not as due");
        System.exit(wrong == 0 ? 0 : 1);
    }

    private static void tellWrong(String what) {
        wrong++;
        if (wrong < 50) {
            System.out.println(what);
        }
    }

    private static long call(WhyChosen x, String line) {
        String[] parts = line.split(" ");
        long[] told = new long[parts.length - 1];
        for (int i = 0; i < told.length; i++) {
            told[i] = Long.parseLong(parts[i + 1]);
        }
        return call(x, METHODS.get(parts[0]), told);
    }

    private static long call(WhyChosen x, Method method, long[] told) {
        Object[] objects = new Object[told.length];
        for (int i = 0; i < told.length; i++) {
            if (method.getParameterTypes()[i] == long.class) {
                objects[i] = told[i];
            } else {
                objects[i] = (int) told[i];
            }
        }
        try {
            return ((Number) method.invoke(x, objects)).longValue();
        } catch (IllegalAccessException | InvocationTargetException e) {
            throw new IllegalStateException(method.getName() + Arrays.toString(told), e);
        }
    }

    private static WhyChosen made(String[] lines) {
        WhyChosen x = new WhyChosen();
        for (String line : lines) {
            call(x, line);
        }
        return x;
    }

    private static void addFeeds(List<String> lines, String text) {
        for (char sign : text.toCharArray()) {
            lines.add("feed " + (int) sign + " 1");
        }
    }

    /** Three things and takers, four choices, two asks, three models, the text "non", rows of longs, bytes and longs. */
    private static String[] manyThings() {
        List<String> lines = new ArrayList<>(List.of("thing 1 20 0", "thing 3 30 0", "thing 2 10 1", "taker 0", "taker 1", "taker 1",
            "choice 0 7 0", "choice 1 3 1", "choice 1 6 -1", "choice 2 5 2", "put 1 1", "ask 3", "ask 7"));
        addFeeds(lines, "worth 0 20;none 5");
        lines.add("model 1");
        addFeeds(lines, "kind 0 1 2;kind 1 3 3;look 2");
        lines.add("model 3");
        addFeeds(lines, "pick m=1&p<25;pick t=0");
        lines.add("model 5");
        addFeeds(lines, "non");
        lines.addAll(List.of("act 0 2 9", "tape 0 3 3", "item 0 0 701", "item 0 1 -5", "item 0 2 302", "tape 1 0 2", "item 1 1 77", "tape 2 3 1"));
        return lines.toArray(new String[0]);
    }

    /** As many of all as there may be. */
    private static String[] allFull() {
        List<String> lines = new ArrayList<>();
        for (int i = 0; i < 6; i++) {
            lines.add("thing " + i + " " + 10 * i + " " + i % 4);
        }
        for (int i = 0; i < 16; i++) {
            lines.add("taker " + i % 3);
        }
        for (int i = 0; i < 80; i++) {
            lines.add("choice " + i % 16 + " 63 " + (i % 7 - 1));
        }
        for (int i = 0; i < 10; i++) {
            lines.add("ask " + (i + 1));
            addFeeds(lines, "none " + i);
            lines.add("model " + i % 6);
        }
        for (int i = 0; i < 30; i++) {
            lines.add("feed 1852796517 4");
        }
        lines.addAll(List.of("tape 0 3 1", "item 0 0 100"));
        return lines.toArray(new String[0]);
    }

    /** What can be seen of an object, in less calls than it has left; what this changes does not matter. */
    private static List<Long> seen(WhyChosen x) {
        List<Long> seen = new ArrayList<>();
        int choices = x.count(2);
        for (int what = 0; what < 8; what++) {
            seen.add((long) x.count(what));
        }
        for (int i = 0; i < 7; i++) {
            seen.add((long) x.trace(i));
        }
        for (int c : new int[] {0, 1, 2, 3, choices - 1}) {
            for (int what = 0; what < 4; what++) {
                seen.add((long) x.of(c, what));
            }
        }
        for (int model = 0; model < 3; model++) {
            for (int option : new int[] {0, 1, 2, 7}) {
                seen.add((long) x.weight(model, option, 0));
                seen.add(x.odds(model, option, 7, 1, 0));
                seen.add(x.odds(model, option, 7, 1, 1));
            }
            seen.add((long) x.score(model, 0));
            seen.add((long) x.misses(model, 1));
            seen.add(x.coin(model, 7));
        }
        for (int taker = 0; taker < 3; taker++) {
            seen.add((long) x.agree(taker));
            seen.add((long) x.next(taker));
        }
        for (int tape = 0; tape < 6; tape++) {
            for (int i = 0; i < 4; i++) {
                seen.add(x.read(tape, i));
            }
            seen.add((long) x.shift(tape, 0, tape, 0, 0));
        }
        for (int thing = 0; thing < 3; thing++) {
            seen.add((long) x.price(thing, 50));
        }
        seen.add((long) x.could(choices - 1));
        seen.add((long) x.taker(1));
        seen.add((long) x.ask(1));
        seen.add((long) x.choice(0, 1, 0));
        seen.add((long) x.model(1));
        return seen;
    }

    private static void refused(String[] world, Object... told) {
        List<Long> untouched = seen(made(world));
        for (int i = 0; i < told.length; i += 2) {
            WhyChosen x = made(world);
            String line = (String) told[i];
            long got = call(x, line);
            if (got != ((Number) told[i + 1]).longValue()) {
                tellWrong(line + " answered " + got + ", due is " + told[i + 1]);
            }
            if (!seen(x).equals(untouched)) {
                tellWrong(line + ", which is refused, changes something");
            }
        }
    }

    private static void refusalsOfMany() {
        refused(manyThings(), "thing -1 0 0", BAD, "thing 0 100 0", BAD, "thing 0 0 4", BAD, "thing 1 1 1", STATE,
            "price 3 100", NONE, "price -1 5", NONE, "price 0 100", BAD, "price 0 -1", BAD, "taker 3", BAD, "taker -1", BAD,
            "choice 3 0 9", NONE, "choice -1 7 0", NONE, "choice 0 0 -1", BAD, "choice 0 8 3", BAD, "choice 0 6 0", BAD,
            "choice 0 7 -2", BAD, "choice 0 7 3", BAD, "put 4 3", NONE, "put -1 0", NONE, "put 0 3", BAD, "put 0 -1", BAD,
            "of 4 0", NONE, "of 0 4", NONE, "of -1 -1", NONE, "feed 1 5", BAD, "feed 1 -1", BAD, "model 6", NONE, "model -1", NONE);
        refused(manyThings(), "weight 3 0 0", NONE, "weight 0 3 0", NONE, "weight 0 0 3", NONE, "odds 3 0 7 0 0", NO,
            "odds 0 3 7 0 0", NO, "odds 0 0 7 3 0", NO, "odds 0 0 7 0 2", NO, "odds 0 0 8 0 0", NO, "odds 0 0 0 0 0", NO,
            "score 3 0", NONE, "score 0 2", NONE, "misses 3 0", NONE, "misses 0 2", NONE, "grid 3 0", NONE, "grid 0 3", NONE,
            "which 1 0", NONE, "which 0 3", NONE, "which -1 2", NONE, "agree 3", NONE, "letgo 3", NONE, "like 3 3", NONE,
            "like 0 3", NONE, "like 3 0", NONE, "like 0 0", BAD, "would 3 0", NONE, "would 0 0", BAD, "would 0 8", BAD,
            "must 3 0 0", NONE, "must 0 0 2", NONE, "must 0 6 0", BAD, "must 0 9 0", BAD);
        refused(manyThings(), "ask 0", BAD, "ask 8", BAD, "next 3", NONE, "next -1", NONE, "silly 8", BAD, "could 4", NONE,
            "away 3 3 0", NONE, "away 0 3 0", NONE, "away 0 0 5", NONE, "away 0 0 4", BAD, "coin 3 0", NO, "coin 0 8", NO,
            "lay 3 9", NONE, "lay 0 7", BAD, "lay 0 -1", BAD, "best 3 0 1", NONE, "best 0 3 8", NONE, "best 0 0 6", BAD,
            "best 0 0 9", BAD, "worse 3 8 8", NONE, "worse 0 8 0", BAD, "worse 0 0 8", BAD, "trace -1", NONE, "trace 20", NONE,
            "taken 3 6", BAD, "taken 3 0", NOTHING, "taken 0 5", CAST, "count 8", BAD);
        refused(manyThings(), "sheet 6 0 0 0", NONE, "sheet 0 0 0 3", NONE, "sheet 1 0 1 3", NONE, "sheet 0 0 0 0", BAD,
            "sheet 1 0 21 0", BAD, "sheet 1 0 1 0", CAST, "sheet 1 -1 1 0", CAST, "tape 6 9 99", NONE, "tape 0 5 -1", BAD,
            "tape 0 -2 -1", BAD, "tape 0 0 61", BAD, "tape 0 0 -1", SIZE, "item 6 0 1", NONE, "item 3 -1 1", NOTHING,
            "item 0 3 1", PLACE, "item 0 -1 1", PLACE, "read 6 0", NO, "read 3 0", NO, "read 0 3", NO, "read 0 -1", NO,
            "shift 6 0 3 0 0", NONE, "shift 3 0 6 0 0", NONE, "shift 3 0 0 0 -1", NOTHING, "shift 0 9 3 0 0", NOTHING,
            "shift 0 9 1 0 0", CAST, "shift 1 0 0 0 -1", CAST, "shift 0 0 2 0 2", PLACE, "shift 2 0 0 0 2", PLACE,
            "shift 0 -1 2 0 1", PLACE, "shift 0 0 2 -1 1", PLACE, "shift 0 0 2 0 -1", PLACE, "shift 0 1 0 2 2", PLACE,
            "sheet 0 -1 2 0", 2, "sheet 0 3 5 0", 5, "sheet 3 0 20 0", 20, "sheet 0 1 1 0", 1);
    }

    private static void refusalsOfFull() {
        refused(allFull(), "thing 256 0 0", BAD, "thing 1 1 1", STATE, "taker 3", BAD, "taker 0", FULL, "choice 16 63 0", NONE,
            "choice 0 0 0", BAD, "choice 0 64 0", BAD, "choice 0 1 0", FULL, "choice 0 1 -1", FULL, "ask 0", BAD, "ask 64", BAD,
            "ask 1", FULL, "feed 0 5", BAD, "feed 0 1", FULL, "feed 0 4", FULL, "feed 0 0", 120, "model 6", NONE, "model 0", FULL,
            "model 5", FULL, "sheet 0 0 1 0", 1, "sheet 0 0 20 15", 20, "sheet 0 0 1 16", NONE);
        String[] six = {"thing 1 1 1", "thing 1 1 1", "thing 1 1 1", "thing 1 1 1", "thing 1 1 1", "thing 1 1 1"};
        refused(six, "thing 0 -1 0", BAD, "thing 0 0 0", FULL);
    }

    private static void refusalsOfEmpty() {
        String[] none = {};
        refused(none, "thing 0 0 -1", BAD, "price 0 100", NONE, "taker 3", BAD, "choice 0 0 0", NONE, "put 0 3", NONE, "of 0 0", NONE,
            "feed 0 5", BAD, "feed 0 0", 0, "model 6", NONE, "model 0", -10, "weight 0 7 0", NONE, "odds 0 7 0 0 0", NO, "score 0 0", NONE,
            "misses 0 0", NONE, "grid 0 0", NONE, "which 0 0", NONE, "agree 0", NONE, "letgo 0", NONE, "like 0 0", NONE,
            "would 0 0", NONE, "must 0 0 0", NONE, "ask 0", BAD, "ask 1", BAD, "next 0", NONE, "silly 1", BAD, "could 0", NONE,
            "away 0 0 0", NONE, "coin 0 0", NO, "lay 0 7", NONE, "best 0 0 0", NONE, "worse 0 1 1", NONE, "act 0 0 0", 0,
            "trace 0", NONE, "taken 0 6", BAD, "taken 0 0", NOTHING, "sheet 0 0 0 0", NONE, "item 0 0 1", NOTHING, "read 0 0", NO,
            "shift 0 0 1 0 1", NOTHING, "tape 0 -1 -1", 1);
    }

    private static boolean isRefused(String name, long answer) {
        // a FAULT empties THE TEXT, and an act has a TRACE with any answer
        return answer < 0 && !name.equals("act") && !(name.equals("model") && answer <= -10);
    }

    private static void nothingChanges(String name, String[] world) {
        Method method = METHODS.get(name);
        int n = method.getParameterCount();
        long[] values = n < 3 ? new long[] {MIN, -2, -1, 0, 1, 2, 3, 4, 5, 6, 7, 8, 16, 60, 61, 64, 80, 255, 256, MAX}
            : n == 3 ? new long[] {MIN, -1, 0, 1, 2, 3, 5, 7, 8, 61, MAX} : new long[] {-1, 0, 1, 3, 7};
        List<Long> untouched = seen(made(world));
        for (long[] told : allOf(values, n)) {
            WhyChosen x = made(world);
            long answer = call(x, method, told);
            if ((isRefused(name, answer) || !TELLING.contains(name)) && !seen(x).equals(untouched)) {
                tellWrong(name + Arrays.toString(told) + " answered " + answer + " and changes something");
            }
        }
    }

    private static List<long[]> allOf(long[] values, int n) {
        List<long[]> all = new ArrayList<>();
        int[] places = new int[n];
        for (int place = 0; place >= 0;) {
            all.add(Arrays.stream(places).mapToLong(i -> values[i]).toArray());
            for (place = n - 1; place >= 0 && ++places[place] == values.length; place--) {
                places[place] = 0;
            }
        }
        return all;
    }

    /** One object for all calls of a name: far beyond the 512th, where an answer is free, but no call may throw. */
    private static void nothingThrows() {
        long[] few = {MIN, -1, 0, 1, 6, 7, 61, MAX};
        long[] more = {MIN, MIN + 1, -100, -14, -2, -1, 0, 1, 2, 3, 4, 5, 6, 7, 8, 9, 10, 15, 16, 31, 32, 33, 59, 60, 61, 63, 64, 79, 80,
            119, 120, 127, 128, 255, 256, 1 << 30, MAX - 1, MAX};
        for (String[] world : new String[][] {{}, manyThings(), allFull()}) {
            for (Method method : METHODS.values()) {
                WhyChosen x = made(world);
                int n = method.getParameterCount();
                for (long[] told : allOf(n > 3 ? few : more, n)) {
                    call(x, method, told);
                }
            }
        }
    }
}
