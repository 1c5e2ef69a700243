import java.nio.ByteBuffer;
import java.nio.charset.StandardCharsets;

/** What the tests share: objects to begin with, and answers compared with what is due. */
abstract class Checks {
    static final int NONE = OwedToWinds.NONE;
    static final int LOW = Integer.MIN_VALUE;
    static final int HIGH = Integer.MAX_VALUE;

    /** A call whose answer is looked at. */
    interface Call {
        long on(OwedToWinds x);
    }

    private static int wrong = 0;
    private static int asked = 0;
    private static int edges = 0;
    private static volatile String now = "";
    private static String busySeen = null;

    /** A program that never answers must not keep the tests waiting. */
    static void watch() {
        Thread watcher = new Thread(() -> {
            try {
                Thread.sleep(300_000);
            } catch (InterruptedException e) {
                return;
            }
            System.out.println(now + ": no answer in five minutes");
            Runtime.getRuntime().halt(1);
        });
        watcher.setDaemon(true);
        watcher.start();
    }

    // ---- answers -----------------------------------------------------------------------------------------
    /** What the answers from here on belong to. */
    static void of(String what) {
        if (now.isEmpty()) {
            watch();
        }
        now = what;
    }

    private static void count(boolean so, String call, String got, String want) {
        asked++;
        if (!so) {
            wrong++;
            System.out.println(now + ": " + call + " answered " + got + ", due is " + want);
        }
    }

    static void due(String call, long got, long want) {
        count(got == want, call, "" + got, "" + want);
    }

    static void yes(String call, boolean got) {
        due(call, got ? 1 : 0, 1);
    }

    static void no(String call, boolean got) {
        due(call, got ? 1 : 0, 0);
    }

    /** A test of one sentence of the document, told by its promise or section and its words. */
    static void edge(String sentence, Runnable test) {
        of(sentence);
        edges++;
        int before = asked;
        test.run();
        if (asked == before) {
            due("answers looked at", 0, 1);
        }
    }

    static void end() {
        String tests = edges == 0 ? "" : " in " + edges + " tests";
        System.out.println(wrong == 0 ? asked + " answers are as due" + tests
                : wrong + " of " + asked + " answers are not as due" + tests);
        if (wrong != 0) {
            System.exit(1);
        }
    }

    // ---- objects to begin with ---------------------------------------------------------------------------
    /** Puts a text on the tape; it may hold any bytes. */
    static void put(OwedToWinds x, String text) {
        byte[] bytes = text.getBytes(StandardCharsets.ISO_8859_1);
        x.end(0);
        for (int i = 0; i < bytes.length; i += 20) {
            ByteBuffer b = ByteBuffer.allocate(20);
            b.put(bytes, i, Math.min(20, bytes.length - i));
            x.feed(b.getInt(0), b.getInt(4), b.getInt(8), b.getInt(12), b.getInt(16));
        }
        x.end(bytes.length);
    }

    static int tell(OwedToWinds x, String text) {
        put(x, text);
        return x.text();
    }

    /** Tells a text and lets it rule. */
    static OwedToWinds ruled(OwedToWinds x, String text) {
        int number = tell(x, text);
        due("text " + text, x.fault(0), 0);
        yes("by " + text, x.by(number));
        return x;
    }

    /** A new object by whose first text this is played, and taken away again. */
    static OwedToWinds played(String text) {
        OwedToWinds x = new OwedToWinds();
        int number = tell(x, text);
        due("text " + text, x.fault(0), 0);
        due("played " + text, x.played(number), NONE);
        return x;
    }

    /** What a first text does, ruled by a second one. */
    static OwedToWinds under(String laws, String deeds) {
        return ruled(played(deeds), laws);
    }

    /** As many winds and villages as there may be. */
    static OwedToWinds full() {
        OwedToWinds x = new OwedToWinds();
        for (int i = 0; i < 6; i++) {
            x.wind(i % 4, 1 + i, 10 * i);
            x.village(i, 100 * i);
        }
        return x;
    }

    /** Lets so many days pass, however many. */
    static OwedToWinds passed(OwedToWinds x, int days) {
        for (int left = days; left > 0; left -= 60) {
            x.day(Math.min(60, left));
        }
        return x;
    }

    static String times(int n, String s) {
        return s.repeat(n);
    }

    /** What a text's reading tells: its fault and the place of that. */
    static void fault(String text, int what, int where) {
        OwedToWinds x = new OwedToWinds();
        due("text " + text, tell(x, text), what == 0 ? 0 : NONE);
        due("fault(0) of " + text, x.fault(0), what);
        due("fault(1) of " + text, x.fault(1), where);
        due("texts by " + text, x.about(2), what == 0 ? 1 : 0);
    }

    /** A text without a fault. */
    static void sound(String text) {
        fault(text, 0, NONE);
    }

    // ---- that nothing is done ----------------------------------------------------------------------------
    /** One in which all that there may be is told, and the image is unlike what is now. */
    static OwedToWinds busy() {
        OwedToWinds x = new OwedToWinds();
        tell(x, "wind 0 weight 3 due 40;wind 2 weight 2 due 30;wind 3 weight 4 due 20;village 1 purse 50;"
                + "village 0 purse 40;village 2 purse 30;way 0 to 1 of 9;day 2;");
        x.played(0);
        x.image();
        x.way(1, 2, 7);
        tell(x, "dues 7;blows owed/8;");
        x.by(1);
        x.took(0, 1);
        x.took(1, 2);
        x.sail(3);
        x.sail(2);
        x.kind(5);
        x.kind(3);
        x.day(2);
        x.pay(0, 1, 5);
        x.merge(0, 2);
        x.years(3, 4);
        tell(x, "dues 1 1;");
        put(x, "dues 9;");
        return x;
    }

    /** All that can be asked of an object, in one text; it uses the object up. */
    static String seen(OwedToWinds x) {
        StringBuilder s = new StringBuilder();
        look(x, s);
        for (int left = x.about(4); left > 0; left--) {
            s.append("\nundo ").append(x.undo());
            lookAtSteps(x, s);
        }
        s.append("\nback ").append(x.back());
        look(x, s);
        s.append("\ntape ").append(x.text()).append(' ').append(x.fault(0)).append(' ').append(x.fault(1));
        s.append(' ').append(x.by(x.about(2) - 1) && x.about(0) > 0 ? x.ofWind(0, 8) : NONE);
        return s.toString();
    }

    private static void look(OwedToWinds x, StringBuilder s) {
        s.append("\nabout");
        for (int what = 0; what <= 8; what++) s.append(' ').append(x.about(what));
        s.append("\nfault ").append(x.fault(0)).append(' ').append(x.fault(1));
        lookAtSteps(x, s);
        for (int i = 0, winds = x.about(0); i < winds; i++) {
            s.append("\nlaws of wind ").append(i);
            for (int what = 6; what <= 8; what++) s.append(' ').append(x.ofWind(i, what));
            s.append(", ").append(x.strengths(i)).append(' ').append(x.sails(i, 25));
        }
        for (int i = 0, villages = x.about(1); i < villages; i++) {
            s.append("\nsea of village ").append(i);
            for (int to = 0; to < i; to++) s.append(' ').append(x.voyage(to, i, false));
            s.append(", ").append(x.ofVillage(i, 0)).append(' ').append(x.ofVillage(i, 3));
        }
        s.append("\nbook");
        for (int i = 0, pages = x.book(NONE, 0); i < pages; i++) {
            for (int what = 0; what <= 3; what++) s.append(what == 0 ? ", " : " ").append(x.book(i, what));
        }
        s.append("\nkinds ").append(x.inKind(31, NONE)).append(' ').append(x.inKind(31, 0));
    }

    private static void lookAtSteps(OwedToWinds x, StringBuilder s) {
        s.append("\nday ").append(x.is(0)).append(" x ").append(x.is(1)).append(" pages ").append(x.book(NONE, 0));
        for (int i = 0, winds = x.about(0); i < winds; i++) {
            s.append(" wind ").append(i);
            for (int what = 0; what <= 5; what++) s.append(' ').append(x.ofWind(i, what));
        }
        for (int i = 0, villages = x.about(1); i < villages; i++) {
            s.append(" village ").append(i).append(' ').append(x.ofVillage(i, 1)).append(' ').append(x.ofVillage(i, 2));
        }
    }

    /** Two objects of which all that can be asked must be alike; it uses them up. */
    static void alike(String what, OwedToWinds got, OwedToWinds want) {
        String is = seen(got);
        String due = seen(want);
        count(is.equals(due), what + ": all there is", is, due);
    }

    /** A call on one of two like objects that must answer so, and do nothing. */
    static void idle(String what, OwedToWinds asked, OwedToWinds other, long want, Call call) {
        due(what, call.on(asked), want);
        alike(what + " must do nothing", asked, other);
    }

    /** A call on the busy one that must answer so, and do nothing. */
    static void idle(String what, long want, Call call) {
        OwedToWinds x = busy();
        due(what, call.on(x), want);
        String is = seen(x);
        if (busySeen == null) {
            busySeen = seen(busy());
        }
        count(is.equals(busySeen), what + " must do nothing: all there is", is, busySeen);
    }

    /** A question of the busy one that must do nothing, whatever it answers. */
    static void quiet(String what, Call call) {
        idle(what, call.on(busy()), call);
    }
}
