import java.lang.management.ManagementFactory;

/**
 * Rule 12 of ../shared/LANGUAGE.md and the room that all calls of one run share: the dearest calls, 512 of them on
 * one object, may make no more than that room holds; told by the bytes that this thread takes for them.
 */
public final class RoomTest extends Checks {
    /** 600,000 objects of 16 bytes and 7.3 million elements of 4. */
    private static final long ROOM = 600_000L * 16 + 7_300_000L * 4;

    private static long taken() {
        return ((com.sun.management.ThreadMXBean) ManagementFactory.getThreadMXBean()).getThreadAllocatedBytes(Thread.currentThread().getId());
    }

    private static OwedToWinds filled() {
        OwedToWinds x = new OwedToWinds();
        for (int i = 0; i < 6; i++) {
            x.wind(i % 4, 9, 99);
            x.village(i, 9999);
        }
        for (int i = 0; i < 36; i++) x.way(i / 6, i % 6, 10 + i);
        for (int i = 0; i < 3; i++) tell(x, "takes debt(weight/2)-purse/force+round day to 3;catch round purse to 9;dues 9+day;");
        x.by(0);
        x.day(40);
        for (int i = 0; i < 5; i++) {
            x.sail(9);
            x.kind(99 - i);
        }
        return x;
    }

    private static void dear(String what, Call call) {
        dear(what, 400, call);
    }

    private static void dear(String what, int times, Call call) {
        long before = taken();
        OwedToWinds x = filled();
        for (int i = 0; i < times; i++) call.on(x);
        long made = taken() - before;
        yes(what + " " + times + " times makes " + made + " bytes", made <= ROOM);
    }

    public static void main(String[] args) {
        of("12 (LANGUAGE.md)");
        dear("day", x -> x.day(60));
        dear("years", x -> x.years(7, 40));
        dear("played", x -> x.played(0));
        dear("foretold", x -> x.foretold(60));
        dear("arrears", x -> x.arrears());
        dear("whose", x -> x.whose(60));
        dear("least", x -> x.least(60, 0, true));
        dear("share", x -> x.share(0, 9, 31, 0, true));
        dear("voyage", x -> x.voyage(0, 5, true));
        dear("vane", x -> x.vane());
        dear("sails", x -> x.sails(0, 999));
        dear("sure", x -> x.sure(0, 999, 3));
        dear("inKind", x -> x.inKind(999, 4));
        dear("image", x -> x.image());
        dear("back", 200, x -> x.image() + x.back());
        dear("text", 100, x -> tell(x, "dues " + times(9, "(")));
        end();
    }
}
