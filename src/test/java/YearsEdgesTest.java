/**
 * One test for each sentence of part V, and of the promises on years, the image and what there is, that names an
 * edge. A seed's first x is seed * 2 + 127: seed 4 gives 135, seed 2 131, seed 0 127, seed 3 133, seed 1 129.
 */
public final class YearsEdgesTest extends Checks {
    private static int drawn(int x) {
        return (x * 353 + 233) % 30427;
    }

    // ---- years -------------------------------------------------------------------------------------------
    private static void years() {
        edge("14: YEARS: DAY", () -> {
            due("a day passes", new OwedToWinds().years(3, 1), 1);
            due("none passes", new OwedToWinds().years(0, 1), 0);
        });
        edge("14: SEED (0 .. 9999): X is SEED * 2 + 127", () -> {
            for (int seed : new int[] {0, 1, 9998, 9999}) {
                OwedToWinds x = new OwedToWinds();
                yes("years", x.years(seed, 1) >= 0);
                due("X anew", x.is(1), drawn(seed * 2 + 127));
            }
        });
        edge("14: NONE for other SEEDS", () -> {
            for (int seed : new int[] {-1, LOW, 10000, HIGH}) idle("years(" + seed + ", 1)", NONE, x -> x.years(seed, 1));
        });
        edge("14: n times (1 .. 40)", () -> {
            for (int n : new int[] {1, 2, 39, 40}) {
                // Of none told a day draws nothing, so that X is drawn anew n times.
                OwedToWinds x = new OwedToWinds();
                x.years(5, n);
                int number = 137;
                for (int i = 0; i < n; i++) number = drawn(number);
                due("X behind " + n, x.is(1), number);
            }
        });
        edge("14: NONE for other n", () -> {
            for (int n : new int[] {0, -1, LOW, 41, HIGH}) idle("years(5, " + n + ")", NONE, x -> x.years(5, n));
        });
        edge("V: 0, 1: a VILLAGE pays 1 and x mod 20", () -> {
            OwedToWinds x = played("wind 0 weight 1 due 0;village 0 purse 50;");
            due("135 mod 5 is 0", x.years(4, 1), 0);
            due("16 pence", x.ofVillage(0, 1), 34);
            due("16 pence", x.ofWind(0, 3), -16);
            OwedToWinds y = played("wind 0 weight 1 due 0;village 0 purse 50;");
            due("131 mod 5 is 1", y.years(2, 1), 0);
            due("12 pence", y.ofVillage(0, 1), 38);
            due("12 pence", y.ofWind(0, 3), -12);
        });
        edge("V: VILLAGE x mod how many, WIND x / 5 mod how many there are", () -> {
            // 135 mod 4 is 3; 27 mod 5 is 2.
            OwedToWinds x = played(times(5, "wind 0 weight 1 due 0;") + times(4, "village 0 purse 50;"));
            x.years(4, 1);
            for (int i = 0; i < 5; i++) due("owed " + i, x.ofWind(i, 3), i == 2 ? -16 : 0);
            for (int i = 0; i < 4; i++) due("purse " + i, x.ofVillage(i, 1), i == 3 ? 34 : 50);
            // 131 mod 6 is 5; 26 mod 6 is 2.
            OwedToWinds y = played(times(6, "wind 0 weight 1 due 0;") + times(6, "village 0 purse 50;"));
            y.years(2, 1);
            due("owed", y.ofWind(2, 3), -12);
            due("purse", y.ofVillage(5, 1), 38);
        });
        edge("V: how many there are: GONE ones too", () -> {
            // 27 mod 3 is 0; 26 mod 3 is 2.
            OwedToWinds x = played(times(3, "wind 0 weight 1 due 0;") + "village 0 purse 50;merge 1 to 2;");
            x.years(4, 1);
            due("owed", x.ofWind(0, 3), -16);
            x.years(2, 1);
            due("owed", x.ofWind(2, 3), -12);
        });
        edge("V: pays (if it can be): no more than PURSE", () -> {
            OwedToWinds x = played("wind 0 weight 1 due 0;village 0 purse 15;");
            x.years(4, 1);
            due("16 of 15", x.ofVillage(0, 1), 15);
            due("owed", x.ofWind(0, 3), 0);
            OwedToWinds y = played("wind 0 weight 1 due 0;village 0 purse 16;");
            y.years(4, 1);
            due("16 of 16", y.ofVillage(0, 1), 0);
        });
        edge("V: pays (if it can be): OWED not below -999", () -> {
            OwedToWinds x = played("wind 0 weight 1 due 0;village 0 purse 2000;pay 0 to 0 of 983;");
            x.years(4, 1);
            due("16 of -983", x.ofWind(0, 3), -999);
            OwedToWinds y = played("wind 0 weight 1 due 0;village 0 purse 2000;pay 0 to 0 of 984;");
            y.years(4, 1);
            due("16 of -984", y.ofWind(0, 3), -984);
            due("purse", y.ofVillage(0, 1), 1016);
        });
        edge("V: pays (if it can be): one that isn't GONE", () -> {
            // 27 mod 2 is 1.
            OwedToWinds x = played("wind 0 weight 1 due 0;wind 0 weight 1 due 0;village 0 purse 50;merge 1 to 0;");
            x.years(4, 1);
            due("owed", x.ofWind(1, 3), 0);
            due("purse", x.ofVillage(0, 1), 50);
        });
        edge("V: 2: MERGED, if x mod 7 is 0", () -> {
            // Seed 10: 147 mod 5 is 2, mod 7 is 0; 147 mod 5 is 2, 49 mod 5 is 4.
            OwedToWinds x = played(times(5, "wind 0 weight 1 due 3;"));
            due("years", x.years(10, 1), 0);
            for (int i = 0; i < 5; i++) due("gone " + i, x.ofWind(i, 5), i == 2 ? 1 : 0);
            due("weight", x.ofWind(4, 1), 2);
            due("due", x.ofWind(4, 2), 6);
        });
        edge("V: 2: not MERGED, if x mod 7 isn't 0", () -> {
            // 127 mod 7 is 1, 137 mod 7 is 4, 157 mod 7 is 3, 167 mod 7 is 6: each would be another pair of two.
            for (int seed : new int[] {0, 5, 15, 20}) {
                OwedToWinds x = played(times(5, "wind 0 weight 1 due 3;"));
                due("years", x.years(seed, 1), 0);
                for (int i = 0; i < 5; i++) due("gone " + i, x.ofWind(i, 5), 0);
            }
        });
        edge("V: MERGED (if it can be): into another one", () -> {
            // 147 mod 2 is 1, 49 mod 2 is 1.
            OwedToWinds x = played(times(2, "wind 0 weight 1 due 3;"));
            x.years(10, 1);
            due("gone", x.ofWind(1, 5), 0);
            due("weight", x.ofWind(1, 1), 1);
        });
        edge("V: MERGED (if it can be): neither GONE", () -> {
            OwedToWinds x = played(times(5, "wind 0 weight 1 due 3;") + "merge 2 to 0;");
            x.years(10, 1);
            due("weight", x.ofWind(4, 1), 1);
            OwedToWinds y = played(times(5, "wind 0 weight 1 due 3;") + "merge 4 to 0;");
            y.years(10, 1);
            due("weight", y.ofWind(4, 1), 1);
            due("gone", y.ofWind(2, 5), 0);
        });
        edge("V: else a DAY", () -> {
            // Seed 3: 133 mod 5 is 3; seed 1: 129 mod 5 is 4.
            for (int seed : new int[] {3, 1}) {
                OwedToWinds x = played("wind 0 weight 1 due 30;village 0 purse 50;");
                due("years", x.years(seed, 1), 1);
                due("owed", x.ofWind(0, 3), 30);
                due("pages", x.book(NONE, 0), 1);
                due("X drawn by the day too", x.is(1), drawn(drawn(seed * 2 + 127)));
            }
        });
        edge("V: a DAY (if it can pass)", () -> {
            OwedToWinds x = passed(played("wind 0 weight 1 due 30;"), 9998);
            due("one can", x.years(3, 1), 9999);
            due("none can", x.years(3, 1), 9999);
            due("X is drawn for it all the same", x.is(1), drawn(133));
            due("none of forty can", x.years(7, 40), 9999);
            due("steps", x.undo(), 29);
            due("the latest page", x.book(29, 0), 9998);
        });
        edge("V: What there are none of isn't", () -> {
            OwedToWinds x = new OwedToWinds();
            due("no wind, no village: nobody pays", x.years(4, 1), 0);
            due("no wind is merged", x.years(10, 1), 0);
            OwedToWinds y = played("village 0 purse 50;");
            due("no wind is paid", y.years(4, 1), 0);
            due("purse", y.ofVillage(0, 1), 50);
            OwedToWinds z = played("wind 0 weight 1 due 30;");
            due("no village pays", z.years(4, 1), 0);
            due("owed", z.ofWind(0, 3), 0);
        });
        edge("V: It is one STEP", () -> {
            OwedToWinds x = played("wind 0 weight 1 due 30;wind 0 weight 2 due 20;village 0 purse 50;day 3;");
            x.years(7, 40);
            due("steps", x.about(4), 4);
            due("undo", x.undo(), 3);
            alike("taken back", x, played("wind 0 weight 1 due 30;wind 0 weight 2 due 20;village 0 purse 50;day 3;"));
        });
        edge("V: one STEP also if nothing could be done in it", () -> {
            OwedToWinds x = new OwedToWinds();
            x.years(0, 1);
            due("steps", x.about(4), 1);
            due("undo", x.undo(), 0);
            due("X", x.is(1), 127);
        });
    }

    // ---- the image ---------------------------------------------------------------------------------------
    private static void image() {
        edge("46: THE IMAGE is as all is now: DAY", () -> {
            OwedToWinds x = busy();
            due("image", x.image(), x.is(0));
            due("image of a new one", new OwedToWinds().image(), 0);
        });
        edge("46: nothing else is done", () -> {
            OwedToWinds x = busy();
            OwedToWinds y = busy();
            x.image();
            due("back", y.back(), 2);
            x.end(0);
            y.end(0);
            due("back", x.back(), busy().is(0));
            due("day of the one, of the other", x.is(0) > y.is(0) ? 1 : 0, 1);
        });
        edge("46: the latest alone", () -> {
            OwedToWinds x = new OwedToWinds();
            x.day(1);
            due("image", x.image(), 1);
            x.day(1);
            due("image", x.image(), 2);
            x.day(1);
            due("back", x.back(), 2);
        });
        edge("47: BACK: all is so again", () -> {
            OwedToWinds x = busy();
            x.image();
            OwedToWinds y = busy();
            y.image();
            x.wind(1, 2, 3);
            x.village(4, 5);
            x.way(0, 1, 3);
            x.way(1, 2, 0);
            x.took(NONE, 0);
            x.took(2, 9);
            x.sail(NONE);
            x.sail(9);
            x.kind(NONE);
            x.kind(9);
            x.by(NONE);
            x.day(2);
            x.pay(0, 1, 1);
            x.merge(1, 2);
            x.years(9, 40);
            due("back", x.back(), y.is(0));
            alike("back", x, y);
        });
        edge("47: BACK: TOOK, TORN SAILS, KINDS are so again", () -> {
            OwedToWinds x = under("takes force;blows 7;", "wind 0 weight 1 due 0;village 0 purse 0;village 0 purse 0;");
            x.took(0, 4);
            x.took(1, 4);
            x.sail(7);
            x.sail(7);
            x.kind(2);
            x.kind(6);
            x.image();
            for (int list = 0; list < 2; list++) {
                x.took(NONE, 0);
                x.sail(NONE);
                x.kind(NONE);
                for (int i = 0; list == 1 && i < 2; i++) {
                    x.took(1 - i, 5 + i);
                    x.sail(8);
                    x.kind(5);
                }
                x.back();
                due("TOOK", x.about(5), 2);
                due("TOOK", x.strengths(0), 16);
                due("TORN SAILS", x.about(6), 2);
                due("TORN SAILS", x.sails(0, 0), 4);
                due("KINDS", x.about(7), 2);
                due("KINDS", x.inKind(10, NONE), 3);
                due("KINDS", x.inKind(10, 0), 2);
            }
        });
        edge("47: it stays", () -> {
            OwedToWinds x = busy();
            due("back", x.back(), 2);
            x.day(3);
            x.way(0, 1, 1);
            x.wind(0, 1, 0);
            due("back", x.back(), 2);
            OwedToWinds y = busy();
            y.back();
            alike("back twice", x, y);
        });
        edge("V: STEPS that can be taken back, too", () -> {
            OwedToWinds x = passed(played("wind 0 weight 1 due 5;"), 35);
            x.image();
            for (int i = 0; i < 30; i++) x.undo();
            x.years(5, 40);
            due("back", x.back(), 35);
            due("steps", x.about(4), 30);
            for (int i = 29; i >= 0; i--) due("undo", x.undo(), i);
            due("undo", x.undo(), NONE);
            due("day", x.is(0), 5);
        });
        edge("V: STEPS that can be taken back, too: none", () -> {
            OwedToWinds x = new OwedToWinds();
            x.day(3);
            due("back", x.back(), 0);
            due("steps", x.about(4), 0);
            due("undo", x.undo(), NONE);
        });
        edge("V: the image's STEPS stay as they are", () -> {
            OwedToWinds x = played("wind 0 weight 1 due 5;village 0 purse 50;pay 0 to 0 of 7;");
            x.image();
            x.undo();
            x.years(3, 9);
            x.day(40);
            x.back();
            due("undo", x.undo(), 0);
            due("purse", x.ofVillage(0, 1), 50);
            due("owed", x.ofWind(0, 3), 0);
            due("day", x.is(0), 0);
        });
        edge("V: a WIND, a VILLAGE told behind BACK are as told behind STEPS taken back, too", () -> {
            OwedToWinds x = new OwedToWinds();
            x.day(2);
            x.image();
            x.wind(3, 9, 99);
            x.village(9, 999);
            x.day(8);
            x.back();
            x.wind(1, 2, 3);
            x.village(4, 5);
            x.undo();
            x.undo();
            int[] told = {1, 2, 3, 0, 0, 0};
            for (int what = 0; what <= 5; what++) due("of the wind, " + what, x.ofWind(0, what), told[what]);
            due("purse", x.ofVillage(0, 1), 5);
            due("taken", x.ofVillage(0, 2), 0);
        });
        edge("V: but the tape", () -> {
            OwedToWinds x = new OwedToWinds();
            put(x, "dues 7;");
            x.image();
            x.end(4);
            x.back();
            due("as it is, not as it was", x.about(8), 4);
            put(x, "dues 8;");
            due("back", x.back(), 0);
            due("bytes", x.about(8), 7);
            due("text", x.text(), 0);
        });
        edge("V: but the latest FAULT", () -> {
            OwedToWinds x = new OwedToWinds();
            tell(x, "dues 1;");
            x.image();
            tell(x, "dues roof;");
            x.back();
            due("fault", x.fault(0), 5);
            due("place", x.fault(1), 5);
            x.image();
            tell(x, "dues 1;");
            x.back();
            due("fault", x.fault(0), 0);
            due("place", x.fault(1), NONE);
            OwedToWinds y = new OwedToWinds();
            tell(y, "!");
            y.back();
            due("fault of a new one's image", y.fault(0), 1);
        });
        edge("V: TEXTS and THE TEXT", () -> {
            OwedToWinds x = played("wind 0 weight 1 due 50;");
            tell(x, "dues 7;");
            x.by(1);
            x.image();
            tell(x, "dues 8;");
            due("a fourth", tell(x, "dues 9;"), 3);
            x.by(3);
            x.back();
            due("texts", x.about(2), 2);
            due("THE TEXT", x.about(3), 1);
            due("its law", x.ofWind(0, 8), 7);
            no("the third isn't told", x.by(2));
            due("played", x.played(2), -2);
            due("told anew", tell(x, "dues 6;"), 2);
            yes("by", x.by(2));
            due("its law", x.ofWind(0, 8), 6);
            x.back();
            due("its law", x.ofWind(0, 8), 7);
        });
        edge("V: an image with all four TEXTS", () -> {
            OwedToWinds x = new OwedToWinds();
            x.wind(0, 1, 50);
            for (int i = 0; i < 4; i++) tell(x, "dues " + i + ";");
            x.image();
            put(x, "dues 9;");
            due("the fifth", x.text(), NONE);
            x.back();
            due("the fifth", x.text(), NONE);
            for (int i = 0; i < 4; i++) due("its law", x.by(i) ? x.ofWind(0, 8) : NONE, i);
        });
        edge("V: the image at DAY's last", () -> {
            OwedToWinds x = passed(new OwedToWinds(), 9999);
            due("image", x.image(), 9999);
            x.undo();
            due("back", x.back(), 9999);
            due("day", x.day(1), NONE);
            due("pages", x.book(29, 0), 9998);
        });
    }

    private static void about() {
        edge("48: 0 WINDS .. 8 bytes of the tape", () -> {
            OwedToWinds x = busy();
            int[] about = {3, 3, 2, 1, 7, 2, 2, 2, 7};
            for (int what = 0; what <= 8; what++) due("about(" + what + ")", x.about(what), about[what]);
        });
        edge("48: the most of each", () -> {
            OwedToWinds x = new OwedToWinds();
            for (int i = 0; i < 9; i++) {
                x.wind(0, 1, 0);
                x.village(0, 0);
                tell(x, "dues 1;");
                x.took(0, 0);
                x.sail(0);
                x.kind(1);
            }
            x.by(3);
            x.day(31);
            for (int i = 0; i < 16; i++) x.feed(0, 0, 0, 0, 0);
            int[] about = {6, 6, 4, 3, 30, 8, 5, 5, 287};
            for (int what = 0; what <= 8; what++) due("about(" + what + ")", x.about(what), about[what]);
        });
        edge("48: -2 for others", () -> {
            for (int what : new int[] {-1, 9, HIGH, LOW}) idle("about(" + what + ")", -2, x -> x.about(what));
        });
        edge("NONE = -1", () -> due("NONE", NONE, -1));
    }

    public static void main(String[] args) {
        years();
        image();
        about();
        end();
    }
}
