import java.math.BigInteger;
import java.util.ArrayDeque;
import java.util.ArrayList;
import java.util.Arrays;
import java.util.HashSet;
import java.util.List;
import java.util.Map;
import java.util.Set;
import java.util.TreeMap;

/**
 * The document read a second time, in another way than the program: trees for laws, whole copies for steps,
 * every order and every row tried out. It is slow and only serves to be compared with.
 */
final class Model {
    static final int NONE = -1;

    // ---- state -------------------------------------------------------------------------------------------
    static final class Wind {
        int quarter, toldWeight, toldDue, weight, due, owed, force;
        boolean gone;

        Wind copy() {
            Wind w = new Wind();
            w.quarter = quarter; w.toldWeight = toldWeight; w.toldDue = toldDue; w.weight = weight;
            w.due = due; w.owed = owed; w.force = force; w.gone = gone;
            return w;
        }
    }

    static final class Village {
        int roof, toldPurse, purse, taken;

        Village copy() {
            Village v = new Village();
            v.roof = roof; v.toldPurse = toldPurse; v.purse = purse; v.taken = taken;
            return v;
        }
    }

    static final class Moment {
        List<Wind> winds = new ArrayList<>();
        List<Village> villages = new ArrayList<>();
        List<int[]> book = new ArrayList<>();
        int day = 0, x = 127;

        Moment copy() {
            Moment m = new Moment();
            for (Wind w : winds) m.winds.add(w.copy());
            for (Village v : villages) m.villages.add(v.copy());
            m.book.addAll(book);
            m.day = day;
            m.x = x;
            return m;
        }
    }

    static final class Image {
        Moment now;
        ArrayDeque<Moment> steps;
        Map<String, Integer> ways;
        List<Script> texts;
        int ruling;
        List<int[]> took;
        List<Integer> sails, kinds;
    }

    Moment now = new Moment();
    ArrayDeque<Moment> steps = new ArrayDeque<>();
    Map<String, Integer> ways = new TreeMap<>();
    List<Script> texts = new ArrayList<>();
    int ruling = NONE;
    List<int[]> took = new ArrayList<>();
    List<Integer> sails = new ArrayList<>();
    List<Integer> kinds = new ArrayList<>();
    byte[] tape = new byte[0];
    int fault = NONE, place = NONE;
    Image image = picture();

    Image picture() {
        Image i = new Image();
        i.now = now.copy();
        i.steps = new ArrayDeque<>();
        for (Moment m : steps) i.steps.add(m.copy());
        i.ways = new TreeMap<>(ways);
        i.texts = new ArrayList<>(texts);
        i.ruling = ruling;
        i.took = new ArrayList<>(took);
        i.sails = new ArrayList<>(sails);
        i.kinds = new ArrayList<>(kinds);
        return i;
    }

    int image() {
        image = picture();
        return now.day;
    }

    int back() {
        Image i = image;
        now = i.now;
        steps = i.steps;
        ways = i.ways;
        texts = i.texts;
        ruling = i.ruling;
        took = i.took;
        sails = i.sails;
        kinds = i.kinds;
        image = picture();
        return now.day;
    }

    // ---- texts -------------------------------------------------------------------------------------------
    interface Tree { long value(Here h); }

    static final class Here {
        Model m;
        int wind, village, force;
    }

    static final class Script {
        Map<String, Tree> laws = new TreeMap<>();
        List<Object[]> clauses = new ArrayList<>();
    }

    static final class Fault extends Exception {
        final int what, where;

        Fault(int what, int where) {
            this.what = what;
            this.where = where;
        }
    }

    static final class Parser {
        final String s;
        final List<String> tokens = new ArrayList<>();
        final List<Integer> places = new ArrayList<>();
        int i = 0;
        String law;
        Script script = new Script();

        Parser(String s) {
            this.s = s;
            java.util.regex.Matcher m = java.util.regex.Pattern
                    .compile("[a-zA-Z]+|[0-9]+|<=|>=|[^ \n]", java.util.regex.Pattern.DOTALL).matcher(s);
            while (m.find()) {
                tokens.add(m.group());
                places.add(m.start());
            }
            tokens.add("END OF TEXT");
            places.add(s.length());
        }

        String peek() { return tokens.get(i); }

        Fault wrong(int what) { return new Fault(what, places.get(i)); }

        boolean take(String t) {
            if (peek().equals(t)) {
                i++;
                return true;
            }
            return false;
        }

        void need(String t) throws Fault {
            if (!take(t)) throw wrong(1);
        }

        int number(int lo, int hi) throws Fault {
            if (!Character.isDigit(peek().charAt(0)) || peek().charAt(0) > '9') throw wrong(1);
            BigInteger n = new BigInteger(peek());
            if (n.compareTo(BigInteger.valueOf(lo)) < 0 || n.compareTo(BigInteger.valueOf(hi)) > 0) throw wrong(2);
            i++;
            return n.intValue();
        }

        Script parse() throws Fault {
            while (!peek().equals("END OF TEXT")) {
                String t = peek();
                if (!Arrays.asList("comes", "blows", "takes", "catch", "dues", "wind", "village", "way", "pay",
                        "merge", "day").contains(t)) throw wrong(1);
                if (script.laws.containsKey(t)) throw wrong(4);
                if (script.clauses.size() == 24) throw wrong(6);
                i++;
                int a = 0, b = 0, c = 0;
                switch (t) {
                    case "comes": law = t; script.laws.put(t, either()); break;
                    case "blows": case "takes": case "catch": case "dues":
                        law = t; script.laws.put(t, sum(0)); break;
                    case "wind": a = number(0, 3); need("weight"); b = number(1, 9); need("due"); c = number(0, 99); break;
                    case "village": a = number(0, 9); need("purse"); b = number(0, 9999); break;
                    case "way": a = number(0, 5); need("to"); b = number(0, 5); need("of"); c = number(0, 99); break;
                    case "pay": a = number(0, 5); need("to"); b = number(0, 5); need("of"); c = number(1, 999); break;
                    case "merge": a = number(0, 5); need("to"); b = number(0, 5); break;
                    default: a = number(1, 60); break;
                }
                need(";");
                script.clauses.add(new Object[] {t, a, b, c});
            }
            return script;
        }

        Tree either() throws Fault {
            Tree left = both();
            while (take("or")) {
                Tree l = left, r = both();
                left = h -> l.value(h) + r.value(h) > 0 ? 1 : 0;
            }
            return left;
        }

        Tree both() throws Fault {
            Tree left = ask(0);
            while (take("and")) {
                Tree l = left, r = ask(0);
                left = h -> l.value(h) * r.value(h);
            }
            return left;
        }

        Tree ask(int open) throws Fault {
            if (peek().equals("not")) {
                if (open == 8) throw wrong(3);
                i++;
                Tree of = ask(open + 1);
                return h -> 1 - of.value(h);
            }
            Tree l = sum(open);
            String t = peek();
            if (!Arrays.asList("<", "<=", ">", ">=", "=", "#").contains(t)) throw wrong(1);
            i++;
            Tree r = sum(open);
            return h -> {
                long a = l.value(h), b = r.value(h);
                boolean so = t.equals("<") ? a < b : t.equals("<=") ? a <= b : t.equals(">") ? a > b
                        : t.equals(">=") ? a >= b : t.equals("=") ? a == b : a != b;
                return so ? 1 : 0;
            };
        }

        static long cut(long v) { return v > 1000000 ? 1000000 : v < -1000000 ? -1000000 : v; }

        Tree sum(int open) throws Fault {
            Tree left = product(open);
            while (true) {
                boolean plus = peek().equals("+");
                if (!plus && !peek().equals("-")) return left;
                i++;
                Tree l = left, r = product(open);
                left = h -> cut(plus ? l.value(h) + r.value(h) : l.value(h) - r.value(h));
            }
        }

        Tree product(int open) throws Fault {
            Tree left = one(open);
            while (true) {
                boolean times = peek().equals("*");
                if (!times && !peek().equals("/")) return left;
                i++;
                Tree l = left, r = one(open);
                left = h -> {
                    long a = l.value(h), b = r.value(h);
                    return cut(times ? a * b : b == 0 ? 0 : a / b);
                };
            }
        }

        Tree one(int open) throws Fault {
            String t = peek();
            if (t.matches("[0-9]+")) {
                int n = number(0, 9999);
                return h -> n;
            }
            if (Arrays.asList("day", "quarter", "owed", "due", "weight", "force", "roof", "purse").contains(t)) {
                boolean ofVillages = t.equals("roof") || t.equals("purse");
                if (ofVillages && !law.equals("takes") && !law.equals("catch")) throw wrong(5);
                i++;
                return h -> h.m.name(t, h);
            }
            if (!Arrays.asList("(", "-", "debt", "round").contains(t)) throw wrong(1);
            if (open == 8) throw wrong(3);
            i++;
            if (t.equals("(")) {
                Tree in = sum(open + 1);
                need(")");
                return in;
            }
            Tree first = one(open + 1);
            if (t.equals("-")) return h -> -first.value(h);
            if (t.equals("debt")) return h -> h.m.debt(first.value(h));
            need("to");
            Tree second = one(open + 1);
            return h -> {
                long a = first.value(h), size = Math.abs(second.value(h));
                if (size == 0) return a;
                long best = 0, off = Long.MAX_VALUE;
                for (long k = a / size - 2; k <= a / size + 2; k++) {
                    if (Math.abs(k * size - a) <= off) {
                        best = k * size;
                        off = Math.abs(k * size - a);
                    }
                }
                return cut(best);
            };
        }
    }

    long name(String t, Here h) {
        boolean calm = h.wind == NONE;
        switch (t) {
            case "day": return now.day;
            case "force": return h.force;
            case "quarter": return calm ? 0 : now.winds.get(h.wind).quarter;
            case "owed": return calm ? 0 : now.winds.get(h.wind).owed;
            case "due": return calm ? 0 : now.winds.get(h.wind).due;
            case "weight": return calm ? 0 : now.winds.get(h.wind).weight;
            case "roof": return now.villages.get(h.village).roof;
            default: return now.villages.get(h.village).purse;
        }
    }

    long debt(long n) { return n >= 0 && n < now.winds.size() ? now.winds.get((int) n).owed : 0; }

    long law(String law, long without, int wind, int village, int force, int most) {
        long value = without;
        if (ruling != NONE && texts.get(ruling).laws.containsKey(law)) {
            Here h = new Here();
            h.m = this;
            h.wind = wind;
            h.village = village;
            h.force = force;
            value = texts.get(ruling).laws.get(law).value(h);
        }
        return value < 0 ? 0 : value > most ? most : value;
    }

    boolean comes(int w) { return law("comes", 1, w, NONE, now.winds.get(w).force, 1) == 1; }

    int blows(int w) { return (int) law("blows", now.winds.get(w).owed / 10, w, NONE, now.winds.get(w).force, 9); }

    int dues(int w) { return (int) law("dues", now.winds.get(w).due, w, NONE, now.winds.get(w).force, 99); }

    int takesOf(int w, int v, int f) { return (int) law("takes", f - now.villages.get(v).roof, w, v, f, 99); }

    int catchOf(int w, int v, int f) { return (int) law("catch", w == NONE ? 0 : 3, w, v, f, 99); }

    int feed(int a, int b, int c, int d, int e) {
        if (tape.length > 280) return NONE;
        java.nio.ByteBuffer more = java.nio.ByteBuffer.allocate(tape.length + 20);
        more.put(tape).putInt(a).putInt(b).putInt(c).putInt(d).putInt(e);
        tape = more.array();
        return tape.length;
    }

    int end(int n) {
        if (n < 0 || n > tape.length) return NONE;
        tape = Arrays.copyOf(tape, n);
        return n;
    }

    int text() {
        if (texts.size() == 4) return NONE;
        Parser p = new Parser(new String(tape, java.nio.charset.StandardCharsets.ISO_8859_1));
        tape = new byte[0];
        try {
            texts.add(p.parse());
            fault = 0;
            place = NONE;
            return texts.size() - 1;
        } catch (Fault f) {
            fault = f.what;
            place = f.where;
            return NONE;
        }
    }

    int fault(int what) { return what == 0 ? fault : what == 1 ? place : NONE; }

    boolean by(int t) {
        if (t < NONE || t >= texts.size()) return false;
        ruling = t;
        return true;
    }

    // ---- steps -------------------------------------------------------------------------------------------
    boolean isWind(int w) { return 0 <= w && w < now.winds.size(); }

    boolean isVillage(int v) { return 0 <= v && v < now.villages.size(); }

    static boolean in(int lo, int n, int hi) { return lo <= n && n <= hi; }

    int wind(int q, int w, int d) {
        if (now.winds.size() == 6 || !in(0, q, 3) || !in(1, w, 9) || !in(0, d, 99)) return NONE;
        Wind n = new Wind();
        n.quarter = q;
        n.weight = n.toldWeight = w;
        n.due = n.toldDue = d;
        now.winds.add(n);
        return now.winds.size() - 1;
    }

    int village(int r, int p) {
        if (now.villages.size() == 6 || !in(0, r, 9) || !in(0, p, 9999)) return NONE;
        Village n = new Village();
        n.roof = r;
        n.purse = n.toldPurse = p;
        now.villages.add(n);
        return now.villages.size() - 1;
    }

    static String pair(int a, int b) { return Math.min(a, b) + "," + Math.max(a, b); }

    boolean way(int a, int b, int n) {
        if (!isVillage(a) || !isVillage(b) || a == b || !in(0, n, 99)) return false;
        ways.remove(pair(a, b));
        if (n > 0) ways.put(pair(a, b), n);
        return true;
    }

    void step() {
        steps.addLast(now.copy());
        if (steps.size() > 30) steps.removeFirst();
    }

    int undo() {
        if (steps.isEmpty()) return NONE;
        Moment ahead = steps.removeLast();
        for (int i = ahead.winds.size(); i < now.winds.size(); i++) {
            Wind told = now.winds.get(i).copy();
            told.weight = told.toldWeight;
            told.due = told.toldDue;
            told.owed = told.force = 0;
            told.gone = false;
            ahead.winds.add(told);
        }
        for (int i = ahead.villages.size(); i < now.villages.size(); i++) {
            Village told = now.villages.get(i).copy();
            told.purse = told.toldPurse;
            told.taken = 0;
            ahead.villages.add(told);
        }
        now = ahead;
        return steps.size();
    }

    int drawX() {
        int x = now.x;
        now.x = (x * 353 + 233) % 30427;
        return x;
    }

    /** One day: {wind or NONE, force, taken}. */
    int[] dayPasses() {
        if (now.day % 7 == 0) {
            for (int w = 0; w < now.winds.size(); w++) {
                Wind wind = now.winds.get(w);
                if (!wind.gone) wind.owed = Math.min(9999, wind.owed + dues(w));
            }
        }
        List<Integer> lots = new ArrayList<>();
        for (int w = 0; w < now.winds.size(); w++) {
            for (int k = 0; k < now.winds.get(w).weight && !now.winds.get(w).gone; k++) lots.add(w);
        }
        int blowing = NONE, force = 0, all = 0;
        if (!lots.isEmpty()) {
            int drawn = lots.get(drawX() % lots.size());
            force = comes(drawn) ? blows(drawn) : 0;
            now.winds.get(drawn).force = force;
            blowing = force == 0 ? NONE : drawn;
        }
        for (int v = 0; v < now.villages.size(); v++) {
            Village village = now.villages.get(v);
            if (blowing != NONE) {
                int t = takesOf(blowing, v, force);
                village.purse = Math.max(0, village.purse - t);
                village.taken += t;
                all += t;
            }
            village.purse = Math.min(9999, village.purse + catchOf(blowing, v, force));
        }
        now.book.add(new int[] {now.day, blowing, force, all});
        if (now.book.size() > 30) now.book.remove(0);
        now.day++;
        return new int[] {blowing, force, all};
    }

    int day(int n) {
        if (!in(1, n, 60) || now.day + n > 9999) return NONE;
        int all = 0;
        for (int i = 0; i < n; i++) {
            step();
            all += dayPasses()[2];
        }
        return all;
    }

    boolean canPay(int v, int w, int n) {
        return isVillage(v) && isWind(w) && !now.winds.get(w).gone && in(1, n, 999)
                && n <= now.villages.get(v).purse && now.winds.get(w).owed - n >= -999;
    }

    int pay(int v, int w, int n) {
        if (!canPay(v, w, n)) return -1000;
        step();
        now.villages.get(v).purse -= n;
        now.winds.get(w).owed -= n;
        return now.winds.get(w).owed;
    }

    boolean canMerge(int a, int b) {
        return isWind(a) && isWind(b) && a != b && !now.winds.get(a).gone && !now.winds.get(b).gone;
    }

    int merge(int a, int b) {
        if (!canMerge(a, b)) return -1000;
        step();
        Wind from = now.winds.get(a), to = now.winds.get(b);
        to.owed = Math.max(-999, Math.min(9999, to.owed + from.owed));
        to.weight = Math.min(99, to.weight + from.weight);
        to.due = Math.min(999, to.due + from.due);
        to.force = Math.max(to.force, from.force);
        from.gone = true;
        return to.owed;
    }

    int years(int seed, int n) {
        if (!in(0, seed, 9999) || !in(1, n, 40)) return NONE;
        step();
        ArrayDeque<Moment> only = new ArrayDeque<>();
        for (Moment m : steps) only.add(m);
        now.x = seed * 2 + 127;
        for (int i = 0; i < n; i++) {
            int x = drawX(), winds = now.winds.size(), villages = now.villages.size();
            switch (x % 5) {
                case 0: case 1:
                    if (winds > 0 && villages > 0) pay(x % villages, (x / 5) % winds, 1 + x % 20);
                    break;
                case 2:
                    if (winds > 0 && x % 7 == 0) merge(x % winds, (x / 3) % winds);
                    break;
                default:
                    if (now.day < 9999) dayPasses();
            }
        }
        steps = only;
        return now.day;
    }

    int played(int t) {
        if (t < 0 || t >= texts.size()) return -2;
        int i = 0;
        for (Object[] c : texts.get(t).clauses) {
            int a = (int) c[1], b = (int) c[2], d = (int) c[3];
            boolean done = true;
            switch ((String) c[0]) {
                case "wind": done = wind(a, b, d) != NONE; break;
                case "village": done = village(a, b) != NONE; break;
                case "way": done = way(a, b, d); break;
                case "pay": done = pay(a, b, d) != -1000; break;
                case "merge": done = merge(a, b) != -1000; break;
                case "day":
                    for (int k = 0; k < a && done; k++) done = day(1) != NONE;
                    break;
                default: break;
            }
            if (!done) return i;
            i++;
        }
        return NONE;
    }

    // ---- asking ------------------------------------------------------------------------------------------
    int ofWind(int w, int what) {
        if (!isWind(w)) return -1000;
        Wind n = now.winds.get(w);
        switch (what) {
            case 0: return n.quarter;
            case 1: return n.weight;
            case 2: return n.due;
            case 3: return n.owed;
            case 4: return n.force;
            case 5: return n.gone ? 1 : 0;
            case 6: return blows(w);
            case 7: return comes(w) ? 1 : 0;
            case 8: return dues(w);
            default: return -1000;
        }
    }

    int ofVillage(int v, int what) {
        if (!isVillage(v)) return NONE;
        Village n = now.villages.get(v);
        return what == 0 ? n.roof : what == 1 ? n.purse : what == 2 ? n.taken : what == 3 ? catchOf(NONE, v, 0) : NONE;
    }

    int takes(int w, int v, int f) { return isWind(w) && isVillage(v) && in(1, f, 9) ? takesOf(w, v, f) : NONE; }

    int catches(int w, int v, int f) { return isWind(w) && isVillage(v) && in(1, f, 9) ? catchOf(w, v, f) : NONE; }

    int is(int what) { return what == 0 ? now.day : what == 1 ? now.x : -2; }

    int book(int i, int what) {
        if (i == NONE) return now.book.size();
        return in(0, i, now.book.size() - 1) && in(0, what, 3) ? now.book.get(i)[what] : -2;
    }

    interface Later { int answer(List<int[]> days); }

    /** Lets up to n days pass in a copy and asks there. */
    int later(int n, Later asked) {
        Moment kept = now;
        now = now.copy();
        List<int[]> days = new ArrayList<>();
        for (int i = 0; i < n && now.day < 9999; i++) days.add(dayPasses());
        int answer = asked.answer(days);
        now = kept;
        return answer;
    }

    static int sum(List<int[]> days) { return days.stream().mapToInt(d -> d[2]).sum(); }

    int foretold(int n) { return in(1, n, 60) ? later(n, Model::sum) : NONE; }

    int purse(int n, int v) { return in(1, n, 60) && isVillage(v) ? later(n, d -> now.villages.get(v).purse) : NONE; }

    int owed(int n, int w) { return in(1, n, 60) && isWind(w) ? later(n, d -> now.winds.get(w).owed) : -1000; }

    int arrears() {
        for (int n = 1; n <= 60 && now.day + n <= 9999; n++) {
            int so = later(n, d -> {
                boolean owed = false;
                for (Wind w : now.winds) owed = owed || !w.gone && w.owed > 0;
                return owed && d.get(d.size() - 1)[0] == NONE ? 1 : 0;
            });
            if (so == 1) return n;
        }
        return NONE;
    }

    int broke(int v) {
        if (!isVillage(v)) return NONE;
        for (int n = 0; n <= 60 && now.day + n <= 9999; n++) {
            if (later(n, d -> now.villages.get(v).purse) == 0) return n;
        }
        return NONE;
    }

    int whose(int n) {
        if (!in(1, n, 60)) return NONE;
        int kept = ruling, best = NONE, least = 0;
        for (int t = 0; t < texts.size(); t++) {
            ruling = t;
            int taken = foretold(n);
            if (best == NONE || taken < least) {
                best = t;
                least = taken;
            }
        }
        ruling = kept;
        return best;
    }

    static long lowest(long up, long down, boolean low) {
        long g = BigInteger.valueOf(up).gcd(BigInteger.valueOf(down)).longValue();
        return (low ? down : up) / g;
    }

    long odds(int w, int n, boolean low) {
        if (!isWind(w) || !in(0, n, 9)) return NONE;
        int all = 0;
        for (Wind o : now.winds) all += o.gone ? 0 : o.weight;
        Wind own = now.winds.get(w);
        if (own.gone) return low ? 1 : n == 0 ? 0 : 1;
        if (n == 0) return lowest(own.weight, all, low);
        BigInteger up = BigInteger.valueOf(all - own.weight).pow(n), down = BigInteger.valueOf(all).pow(n);
        return (low ? down : up).divide(up.gcd(down)).longValue();
    }

    int least(int n, int h, boolean set) {
        if (!in(1, n, 60) || !in(0, h, 9999)) return NONE;
        int best = NONE, pence = 0;
        for (int s = 63; s >= 0; s--) {
            int cost = 0;
            boolean fair = true;
            Moment kept = now;
            now = now.copy();
            for (int w = 0; w < 6; w++) {
                if ((s & 1 << w) == 0) continue;
                fair = fair && isWind(w) && !now.winds.get(w).gone && now.winds.get(w).owed > 0;
                if (!fair) break;
                cost += now.winds.get(w).owed;
                now.winds.get(w).owed = 0;
            }
            if (fair && foretold(n) <= h && (best == NONE || cost <= pence)) {
                best = s;
                pence = cost;
            }
            now = kept;
        }
        return best == NONE ? NONE : set ? best : pence;
    }

    /** All orders of a set, one by one. */
    static void orders(List<Integer> rest, List<Integer> so, List<List<Integer>> into) {
        if (rest.isEmpty()) into.add(new ArrayList<>(so));
        for (Integer one : rest) {
            List<Integer> others = new ArrayList<>(rest);
            others.remove(one);
            so.add(one);
            orders(others, so, into);
            so.remove(so.size() - 1);
        }
    }

    int share(int w, int f, int set, int v, boolean low) {
        if (!isWind(w) || !in(1, f, 9) || set <= 0 || set >= 64 || v < 0 || v > 5 || (set & 1 << v) == 0) return NONE;
        List<Integer> in = new ArrayList<>();
        for (int i = 0; i < 6; i++) if ((set & 1 << i) != 0) in.add(i);
        if (in.size() > 5 || !isVillage(in.get(in.size() - 1))) return NONE;
        List<List<Integer>> all = new ArrayList<>();
        orders(in, new ArrayList<>(), all);
        long up = 0;
        for (List<Integer> order : all) {
            int most = 0;
            for (int i : order) {
                int t = takesOf(w, i, f);
                if (i == v) up += Math.max(most, t) - most;
                most = Math.max(most, t);
            }
        }
        return (int) lowest(up, all.size(), low);
    }

    int voyage(int from, int to, boolean ahead) {
        if (!isVillage(from) || !isVillage(to)) return -2;
        if (from == to) return ahead ? NONE : 0;
        List<int[]> days = new ArrayList<>();
        later(60, d -> {
            days.addAll(d);
            return 0;
        });
        int[] soon = new int[now.villages.size()];
        Arrays.fill(soon, 1000);
        soon[from] = 0;
        // Day by day: who lies somewhere sets out on every way there is.
        for (int t = 0; t < days.size(); t++) {
            for (int a = 0; a < soon.length; a++) {
                if (soon[a] != t) continue;
                for (int b = 0; b < soon.length; b++) soon[b] = Math.min(soon[b], sailing(days, t, a, b));
            }
        }
        if (soon[to] == 1000) return -2;
        if (!ahead) return soon[to];
        for (int a = 0; ; a++) if (sailing(days, soon[a], a, to) == soon[to]) return a;
    }

    int sailing(List<int[]> days, int start, int a, int b) {
        Integer length = a == b ? null : ways.get(pair(a, b));
        if (length == null) return 1000;
        int done = 0;
        for (int t = start; t < days.size(); t++) {
            int w = days.get(t)[0], speed = 1 + days.get(t)[1];
            if (w != NONE && now.winds.get(w).quarter < 2) speed = Math.max(1, speed / 2);
            done += speed;
            if (done >= length) return t + 1;
        }
        return 1000;
    }

    int took(int v, int what) {
        if (v == NONE) took.clear();
        else if (!isVillage(v) || !in(0, what, 99) || took.size() == 8) return -2;
        else took.add(new int[] {v, what});
        return took.size();
    }

    boolean fits(int w, int f) {
        for (int[] t : took) if (takesOf(w, t[0], f) != t[1]) return false;
        return true;
    }

    int whoseWind() {
        int bits = 0;
        for (int w = 0; w < now.winds.size(); w++) if (strengths(w) != 0) bits += 1 << w;
        return bits;
    }

    int strengths(int w) {
        if (!isWind(w)) return NONE;
        int bits = 0;
        for (int f = 1; f < 10; f++) if (fits(w, f)) bits += 1 << f;
        return bits;
    }

    int vane() {
        int best = NONE, most = 0;
        for (int v = now.villages.size() - 1; v >= 0; v--) {
            boolean known = false;
            for (int[] t : took) known = known || t[0] == v;
            Set<Integer> answers = new HashSet<>();
            for (int w = 0; w < now.winds.size(); w++) {
                for (int f = 1; f < 10; f++) if (fits(w, f)) answers.add(takesOf(w, v, f));
            }
            if (!known && !answers.isEmpty() && answers.size() >= most) {
                best = v;
                most = answers.size();
            }
        }
        return best;
    }

    int sail(int f) {
        if (f == NONE) sails.clear();
        else if (!in(0, f, 9) || sails.size() == 5) return -2;
        else sails.add(f);
        return sails.size();
    }

    /** All rows of payments by which the sails tear so. */
    void rows(int w, int day, List<Integer> so, List<List<Integer>> into) {
        Wind wind = now.winds.get(w);
        int owed = wind.owed, force = wind.force, f = blows(w);
        if (f != sails.get(day)) return;
        if (day == sails.size() - 1) {
            into.add(new ArrayList<>(so));
            return;
        }
        for (int p = 0; p <= 30; p += 10) {
            wind.owed = owed - p;
            wind.force = f;
            so.add(p);
            rows(w, day + 1, so, into);
            so.remove(so.size() - 1);
            wind.owed = owed;
            wind.force = force;
        }
    }

    List<List<Integer>> rows(int w, int o) {
        List<List<Integer>> into = new ArrayList<>();
        Moment kept = now;
        now = now.copy();
        now.winds.get(w).owed = o;
        rows(w, 0, new ArrayList<>(), into);
        now = kept;
        return into;
    }

    int sails(int w, int o) { return isWind(w) && in(0, o, 999) && !sails.isEmpty() ? rows(w, o).size() : NONE; }

    int sure(int w, int o, int i) {
        if (!isWind(w) || !in(0, o, 999) || !in(0, i, sails.size() - 2)) return NONE;
        Set<Integer> paid = new HashSet<>();
        for (List<Integer> row : rows(w, o)) paid.add(row.get(i));
        return paid.size() == 1 ? paid.iterator().next() : NONE;
    }

    int kind(int worth) {
        if (worth == NONE) kinds.clear();
        else if (!in(1, worth, 99) || kinds.size() == 5) return -2;
        else kinds.add(worth);
        return kinds.size();
    }

    int inKind(int n, int k) {
        if (!in(0, n, 999) || !in(-1, k, kinds.size() - 1)) return NONE;
        // For each sum the best numbers of pieces, from the last kind on.
        int[][] best = new int[n + 1][];
        best[0] = new int[kinds.size()];
        for (int kind = kinds.size() - 1; kind >= 0; kind--) {
            int[][] next = new int[n + 1][];
            for (int sum = 0; sum <= n; sum++) {
                for (int count = 0; count * kinds.get(kind) <= sum; count++) {
                    int[] rest = best[sum - count * kinds.get(kind)];
                    if (rest == null) continue;
                    int[] with = rest.clone();
                    with[kind] = count;
                    if (next[sum] == null || pieces(with) <= pieces(next[sum])) next[sum] = with;
                }
            }
            best = next;
        }
        return best[n] == null ? NONE : k == NONE ? pieces(best[n]) : best[n][k];
    }

    static int pieces(int[] of) { return Arrays.stream(of).sum(); }

    int calms(int n, boolean row) {
        if (!in(1, n, 60)) return NONE;
        return later(n, days -> {
            StringBuilder s = new StringBuilder();
            for (int[] d : days) s.append(d[0] == NONE ? 'c' : ' ');
            int most = 0;
            for (String part : s.toString().split(" ")) most = Math.max(most, part.length());
            return row ? most : s.toString().replace(" ", "").length();
        });
    }

    int strongest() {
        int best = NONE, most = 0;
        for (int w = now.winds.size() - 1; w >= 0; w--) {
            if (now.winds.get(w).gone) continue;
            int f = comes(w) ? blows(w) : 0;
            if (best == NONE || f >= most) {
                best = w;
                most = f;
            }
        }
        return best;
    }

    int richest() {
        int best = NONE;
        for (int v = now.villages.size() - 1; v >= 0; v--) {
            if (best == NONE || now.villages.get(v).purse >= now.villages.get(best).purse) best = v;
        }
        return best;
    }

    int often(int w) {
        if (w != NONE && !isWind(w)) return -2;
        return (int) now.book.stream().filter(d -> d[1] == w).count();
    }

    int worstDay() {
        int[] worst = null;
        for (int[] d : now.book) if (worst == null || d[3] > worst[3]) worst = d;
        return worst == null ? NONE : worst[0];
    }

    int about(int what) {
        int[] all = {now.winds.size(), now.villages.size(), texts.size(), ruling, steps.size(), took.size(),
            sails.size(), kinds.size(), tape.length};
        return in(0, what, 8) ? all[what] : -2;
    }
}
