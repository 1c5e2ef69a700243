import java.lang.reflect.Method;
import java.util.ArrayList;
import java.util.HashMap;
import java.util.List;
import java.util.Map;
import java.util.Random;

/** Random runs of calls, the same ones every time, on the program and on the model: every answer must be alike. */
public final class ModelTest {
    private static final Map<String, Method> OF_PROGRAM = new HashMap<>();
    private static final Map<String, Method> OF_MODEL = new HashMap<>();
    private static final int[] ODD = {-1, -2, Integer.MIN_VALUE, Integer.MAX_VALUE, 64, 100, 1000, 10000, 31, 32};

    private final Random random;
    private final OwedToWinds program = new OwedToWinds();
    private final Model model = new Model();
    private final List<String> log = new ArrayList<>();
    private final int wrongness;
    private int calls = 0;
    private boolean failed = false;

    private ModelTest(long seed) {
        random = new Random(seed);
        wrongness = seed % 3 == 0 ? 4 : 25;
    }

    private static Map<String, Integer> used = new HashMap<>();
    private static Map<Long, Integer> faults = new HashMap<>();

    private long call(String name, Object... args) {
        if (failed || calls == 512) {
            return 0;
        }
        calls++;
        used.merge(name, 1, Integer::sum);
        StringBuilder said = new StringBuilder(name).append(java.util.Arrays.toString(args));
        try {
            long got = number(OF_PROGRAM.get(name).invoke(program, args));
            long due = number(OF_MODEL.get(name).invoke(model, args));
            log.add(said + " = " + got);
            if (got != due) {
                failed = true;
                System.out.println(String.join("\n", log) + "\n  the model says " + due);
            }
            return got;
        } catch (ReflectiveOperationException e) {
            failed = true;
            System.out.println(String.join("\n", log) + "\n" + said + " throws " + e.getCause());
            return 0;
        }
    }

    private static long number(Object answer) {
        return answer instanceof Boolean ? ((Boolean) answer ? 1 : 0) : ((Number) answer).longValue();
    }

    // ---- numbers -----------------------------------------------------------------------------------------
    /** Mostly lo .. hi, at times just beyond or far off. */
    private int n(int lo, int hi) {
        int kind = random.nextInt(wrongness);
        if (kind == 0) {
            return random.nextBoolean() ? ODD[random.nextInt(ODD.length)] : random.nextBoolean() ? lo - 1 : hi + 1;
        }
        if (kind == 1) {
            return random.nextBoolean() ? lo : hi;
        }
        return lo + random.nextInt(hi - lo + 1);
    }

    private int wind() { return n(0, Math.max(0, model.now.winds.size() - 1)); }

    private int village() { return n(0, Math.max(0, model.now.villages.size() - 1)); }

    private int text() { return n(0, Math.max(0, model.texts.size() - 1)); }

    // ---- texts -------------------------------------------------------------------------------------------
    private String pick(String... of) { return of[random.nextInt(of.length)]; }

    private String one(int depth, boolean ofVillages) {
        int kind = random.nextInt(depth <= 0 ? 4 : 9);
        switch (kind) {
            case 0: return "" + random.nextInt(random.nextInt(6) == 0 ? 10000 : 12);
            case 1: case 2: return pick("day", "quarter", "owed", "due", "weight", "force");
            case 3: return ofVillages ? pick("roof", "purse") : "force";
            case 4: return "(" + sum(depth - 1, ofVillages) + ")";
            case 5: return "- " + one(depth - 1, ofVillages);
            case 6: return "debt " + one(depth - 2, ofVillages);
            case 7: return "round " + one(depth - 1, ofVillages) + " to " + one(depth - 1, ofVillages);
            default: return "owed";
        }
    }

    private String product(int depth, boolean ofVillages) {
        String s = one(depth, ofVillages);
        while (random.nextInt(4) == 0) s += pick("*", "/", "/") + one(depth - 1, ofVillages);
        return s;
    }

    private String sum(int depth, boolean ofVillages) {
        String s = product(depth, ofVillages);
        while (random.nextInt(3) == 0) s += pick("+", "-") + product(depth - 1, ofVillages);
        return s;
    }

    private String ask(int depth) {
        String not = "";
        while (random.nextInt(4) == 0) not += "not ";
        return not + sum(depth, false) + pick("<", "<=", ">", ">=", "=", "#") + sum(depth, false);
    }

    private String either(int depth) {
        String s = ask(depth);
        while (random.nextInt(3) == 0) s += pick(" or ", " and ") + ask(depth);
        return s;
    }

    private String deed() {
        int w = random.nextInt(6), v = random.nextInt(6);
        switch (random.nextInt(6)) {
            case 0: return "wind " + random.nextInt(4) + " weight " + (1 + random.nextInt(9)) + " due " + random.nextInt(100);
            case 1: return "village " + random.nextInt(10) + " purse " + random.nextInt(200);
            case 2: return "way " + random.nextInt(3) + " to " + v + " of " + random.nextInt(100);
            case 3: return "pay " + random.nextInt(2) + " to " + random.nextInt(3) + " of " + (1 + random.nextInt(40));
            case 4: return "merge " + w + " to " + random.nextInt(6);
            default: return "day " + (1 + random.nextInt(random.nextInt(5) == 0 ? 60 : 5));
        }
    }

    private String script() {
        List<String> clauses = new ArrayList<>();
        int depth = random.nextInt(3) == 0 ? 9 : 2;
        if (random.nextInt(2) == 0) clauses.add("comes " + either(1));
        if (random.nextInt(2) == 0) clauses.add("blows " + sum(depth, false));
        if (random.nextInt(2) == 0) clauses.add("takes " + sum(depth, true));
        if (random.nextInt(2) == 0) clauses.add("catch " + sum(depth, true));
        if (random.nextInt(2) == 0) clauses.add("dues " + sum(depth, false));
        int deeds = random.nextInt(8) == 0 ? 21 + random.nextInt(4) : random.nextInt(5);
        for (int i = 0; i < deeds; i++) clauses.add(random.nextInt(clauses.size() + 1), deeds > 20 ? "day 1" : deed());
        if (random.nextInt(8) == 0) clauses.add(pick("dues 3", "blows 2", "comes 1<2", "pay 0 to 0 of 1", "dues roof"));
        String s = "";
        for (String c : clauses) if (s.length() + c.length() < 290) s += c + pick(";", " ; ", ";\n");
        return random.nextInt(2) == 0 ? s : spoilt(s);
    }

    private String spoilt(String s) {
        java.util.regex.Matcher m = java.util.regex.Pattern.compile("[a-z]+|[0-9]+|<=|>=|[^ \n]").matcher(s);
        List<int[]> tokens = new ArrayList<>();
        while (m.find()) tokens.add(new int[] {m.start(), m.end()});
        if (tokens.isEmpty()) return s;
        int[] token = tokens.get(random.nextInt(tokens.size()));
        String old = s.substring(token[0], token[1]);
        String put = old.matches("[0-9]+") && random.nextInt(3) != 0
                ? pick("10000", "99999999999", "10", "100", "6", "4", "0", "61", "1000", "00000000007", "60", "999")
                : old.matches("day|owed|due|force") && random.nextInt(2) == 0 ? pick("roof", "purse")
                : pick("", " ", "(", ")", "-", " not ", " debt ", " round ", "1", "99999", "day", "roof", "purse",
                    "<", "<=", "=", ";", "to", "of", " and ", " or ", "!", "\t", "\u00e9", "\u0000", "X", "blows ", "weight", "0",
                    "((((((((", "- - - - - - - - ", " not not not not not not not ", "(-round debt ");
        if (random.nextInt(10) == 0) return s.substring(0, token[random.nextInt(2)]);
        return s.substring(0, token[0]) + put + (random.nextInt(3) == 0 ? old : "") + s.substring(token[1]);
    }

    private void tell(String text) {
        byte[] bytes = text.getBytes(java.nio.charset.StandardCharsets.ISO_8859_1);
        call("end", 0);
        for (int i = 0; i < bytes.length && i < 300; i += 20) {
            java.nio.ByteBuffer b = java.nio.ByteBuffer.allocate(20);
            b.put(bytes, i, Math.min(20, bytes.length - i));
            call("feed", b.getInt(0), b.getInt(4), b.getInt(8), b.getInt(12), b.getInt(16));
        }
        call("end", Math.min(300, bytes.length));
        if (random.nextInt(30) == 0) call("feed", random.nextInt(), 0, 0, 0, 0);
        call("text");
        faults.merge(call("fault", 0), 1, Integer::sum);
        call("fault", 1);
        call("about", 8);
    }

    // ---- runs --------------------------------------------------------------------------------------------
    private void change() {
        switch (random.nextInt(16)) {
            case 0: call("wind", n(0, 3), n(1, 9), n(0, 99)); break;
            case 1: call("village", n(0, 9), n(0, random.nextInt(3) == 0 ? 9999 : 60)); break;
            case 2: case 3: call("way", village(), village(), n(0, random.nextInt(2) == 0 ? 99 : 9)); break;
            case 4: if (calls < 440) tell(script()); break;
            case 5: call("by", n(-1, Math.max(0, model.texts.size() - 1))); break;
            case 6: call("pay", village(), wind(), n(1, random.nextInt(4) == 0 ? 999 : 30)); break;
            case 7: if (random.nextInt(3) == 0) call("merge", wind(), wind()); break;
            case 8: case 9: call("day", n(1, random.nextInt(4) == 0 ? 60 : 9)); break;
            case 10: call("played", text()); break;
            case 11: if (random.nextInt(2) == 0) call("years", n(0, 9999), n(1, 40)); break;
            case 12: for (int i = random.nextInt(6); i >= 0; i--) call("undo"); break;
            case 13: if (random.nextInt(2) == 0) call("image"); else if (random.nextInt(2) == 0) call("back"); break;
            case 14:
                if (random.nextInt(3) == 0) call("took", random.nextInt(3) == 0 ? -1 : village(), n(0, 9));
                else call("took", 0, (int) call("takes", wind(), 0, n(1, 9)));
                break;
            default:
                call("sail", random.nextInt(6) == 0 ? -1 : n(0, 4));
                call("kind", random.nextInt(6) == 0 ? -1 : n(1, random.nextInt(2) == 0 ? 99 : 12));
        }
    }

    private void ask() {
        switch (random.nextInt(29)) {
            case 0: call("ofWind", wind(), n(0, 8)); break;
            case 1: call("ofVillage", village(), n(0, 3)); break;
            case 2: call("takes", wind(), village(), n(1, 9)); break;
            case 3: call("catches", wind(), village(), n(1, 9)); break;
            case 4: call("is", n(0, 1)); break;
            case 5: call("book", n(-1, 29), n(0, 3)); break;
            case 6: call("foretold", n(1, 60)); break;
            case 7: call("purse", n(1, 60), village()); break;
            case 8: call("owed", n(1, 60), wind()); break;
            case 9: call("arrears"); break;
            case 10: call("broke", village()); break;
            case 11: call("whose", n(1, 60)); break;
            case 12: call("odds", wind(), n(0, 9), random.nextBoolean()); break;
            case 13: call("least", n(1, 20), n(0, random.nextInt(2) == 0 ? 9999 : 60), random.nextBoolean()); break;
            case 14: call("share", wind(), n(1, 9), n(1, 63), village(), random.nextBoolean()); break;
            case 15: case 16: call("voyage", village(), village(), random.nextBoolean()); break;
            case 17: call("whoseWind"); break;
            case 18: call("strengths", wind()); break;
            case 19: call("vane"); break;
            case 20: call("sails", wind(), n(0, random.nextInt(2) == 0 ? 999 : 60)); break;
            case 21: call("sure", wind(), n(0, 60), n(0, 3)); break;
            case 22: call("inKind", n(0, 999), n(-1, 4)); break;
            case 23: call("calms", n(1, 60), random.nextBoolean()); break;
            case 24: call("strongest"); break;
            case 25: call("richest"); break;
            case 26: call("often", n(-1, 5)); break;
            case 27: call("worstDay"); break;
            default: call("about", n(0, 8));
        }
    }

    private boolean run(int end) {
        if (random.nextInt(4) != 0) {
            for (int i = random.nextInt(7); i > 0; i--) call("wind", n(0, 3), n(1, 9), n(0, 99));
            for (int i = random.nextInt(7); i > 0; i--) call("village", n(0, 9), n(0, 60));
            for (int i = random.nextInt(12); i > 0; i--) call("way", village(), village(), n(0, 30));
        }
        if (random.nextInt(12) == 0) {
            for (int i = 0; i < 166; i++) call("day", 60);
            call("day", 30 + random.nextInt(10));
        }
        while (calls < end && !failed) {
            if (random.nextInt(3) == 0) change();
            else ask();
        }
        return !failed;
    }

    public static void main(String[] args) {
        Checks.watch();
        for (Method m : OwedToWinds.class.getDeclaredMethods()) OF_PROGRAM.putIfAbsent(m.getName(), m);
        for (Method m : Model.class.getDeclaredMethods()) {
            if (OF_PROGRAM.containsKey(m.getName()) && same(m, OF_PROGRAM.get(m.getName()))) OF_MODEL.put(m.getName(), m);
        }
        int runs = args.length > 0 ? Integer.parseInt(args[0]) : 400;
        long first = args.length > 1 ? Long.parseLong(args[1]) : 1;
        int bad = 0;
        for (long seed = first; seed < first + runs && bad < 3; seed++) {
            if (!new ModelTest(seed).run(512)) {
                System.out.println("  in the run of seed " + seed);
                bad++;
            }
        }
        System.out.println(bad == 0 ? runs + " random runs are as the model's" : "random runs are not as the model's");
        if (args.length > 0) {
            System.out.println(used + "\nfaults " + faults);
        }
        if (bad != 0) System.exit(1);
    }

    private static boolean same(Method a, Method b) {
        return java.util.Arrays.equals(a.getParameterTypes(), b.getParameterTypes());
    }
}
