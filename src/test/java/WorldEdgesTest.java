/**
 * One test for each sentence of the terms, and of the promises on what is told, done, taken back and asked of it,
 * that names an edge: what stands just below and just above each bound, none told and the most told, DAY at its
 * last, the 30th and the 31st step and page, what is refused and that nothing is done then.
 */
public final class WorldEdgesTest extends Checks {
    /** A wind that is owed 9998 on day 707, a day of dues. */
    private static OwedToWinds nearlyMostOwed() {
        OwedToWinds x = passed(played("wind 2 weight 1 due 99;"), 700);
        due("owed of 100 weeks", x.ofWind(0, 3), 9900);
        ruled(x, "dues 98;");
        x.day(7);
        due("owed of 101 weeks", x.ofWind(0, 3), 9998);
        x.by(NONE);
        return x;
    }

    // ---- what is told ------------------------------------------------------------------------------------
    private static void aNewObject() {
        edge("1: No WINDS", () -> {
            due("how many", new OwedToWinds().about(0), 0);
            due("the first", new OwedToWinds().ofWind(0, 0), -1000);
        });
        edge("Terms: nothing else is told at first either", () -> {
            OwedToWinds x = new OwedToWinds();
            due("villages", x.about(1), 0);
            due("the first village", x.ofVillage(0, 0), NONE);
            due("texts", x.about(2), 0);
            due("TOOK", x.about(5), 0);
            due("TORN SAILS", x.about(6), 0);
            due("KINDS", x.about(7), 0);
            due("tape", x.about(8), 0);
        });
        edge("Terms: DAY (at first 0)", () -> due("is(0)", new OwedToWinds().is(0), 0));
        edge("Terms: X: at first 127", () -> due("is(1)", new OwedToWinds().is(1), 127));
        edge("II: THE TEXT (at first none)", () -> due("about(3)", new OwedToWinds().about(3), NONE));
        edge("Terms: no STEPS and no pages at first", () -> {
            due("steps", new OwedToWinds().about(4), 0);
            due("undo", new OwedToWinds().undo(), NONE);
            due("pages", new OwedToWinds().book(NONE, 0), 0);
            due("the first page", new OwedToWinds().book(0, 0), -2);
        });
        edge("1: THE IMAGE is this", () -> {
            OwedToWinds x = full();
            x.way(0, 1, 5);
            x.took(0, 1);
            x.sail(1);
            x.kind(1);
            x.day(9);
            x.pay(5, 0, 1);
            due("back", x.back(), 0);
            alike("back to a new object", x, new OwedToWinds());
        });
    }

    private static void winds() {
        edge("2: QUARTER 0 .. 3", () -> {
            for (int quarter = 0; quarter <= 3; quarter++) {
                OwedToWinds x = new OwedToWinds();
                due("wind of quarter " + quarter, x.wind(quarter, 1, 0), 0);
                due("its quarter", x.ofWind(0, 0), quarter);
            }
        });
        edge("2: NONE for QUARTERS below 0", () -> {
            idle("wind(-1, 1, 0)", NONE, x -> x.wind(-1, 1, 0));
            idle("wind(LOW, 1, 0)", NONE, x -> x.wind(LOW, 1, 0));
        });
        edge("2: NONE for QUARTERS above 3", () -> {
            idle("wind(4, 1, 0)", NONE, x -> x.wind(4, 1, 0));
            idle("wind(HIGH, 1, 0)", NONE, x -> x.wind(HIGH, 1, 0));
        });
        edge("2: WEIGHT 1 .. 9", () -> {
            for (int weight = 1; weight <= 9; weight++) {
                OwedToWinds x = new OwedToWinds();
                due("wind of weight " + weight, x.wind(0, weight, 0), 0);
                due("its weight", x.ofWind(0, 1), weight);
            }
        });
        edge("2: NONE for WEIGHTS below 1", () -> {
            idle("wind(0, 0, 0)", NONE, x -> x.wind(0, 0, 0));
            idle("wind(0, -1, 0)", NONE, x -> x.wind(0, -1, 0));
        });
        edge("2: NONE for WEIGHTS above 9", () -> {
            idle("wind(0, 10, 0)", NONE, x -> x.wind(0, 10, 0));
            idle("wind(0, HIGH, 0)", NONE, x -> x.wind(0, HIGH, 0));
        });
        edge("2: DUE 0 .. 99", () -> {
            for (int due : new int[] {0, 1, 98, 99}) {
                OwedToWinds x = new OwedToWinds();
                due("wind of due " + due, x.wind(0, 1, due), 0);
                due("its due", x.ofWind(0, 2), due);
            }
        });
        edge("2: NONE for DUES below 0", () -> idle("wind(0, 1, -1)", NONE, x -> x.wind(0, 1, -1)));
        edge("2: NONE for DUES above 99", () -> {
            idle("wind(0, 1, 100)", NONE, x -> x.wind(0, 1, 100));
            idle("wind(0, 1, HIGH)", NONE, x -> x.wind(0, 1, HIGH));
        });
        edge("2: its number, one by one, also behind one that was refused", () -> {
            OwedToWinds x = new OwedToWinds();
            for (int i = 0; i < 6; i++) {
                due("refused", x.wind(0, 0, 0), NONE);
                due("the next", x.wind(0, 1, i), i);
            }
            for (int i = 0; i < 6; i++) due("as it was told", x.ofWind(i, 2), i);
        });
        edge("2: NONE if there are 6", () -> idle("the seventh", full(), full(), NONE, x -> x.wind(0, 1, 0)));
        edge("2: 5 may have another one", () -> {
            OwedToWinds x = new OwedToWinds();
            for (int i = 0; i < 5; i++) x.wind(0, 1, 0);
            due("five", x.about(0), 5);
            due("the sixth", x.wind(0, 1, 0), 5);
            due("six", x.about(0), 6);
        });
        edge("2: there are 6, also if one is GONE", () -> {
            OwedToWinds x = full();
            x.merge(0, 1);
            due("the seventh", x.wind(0, 1, 0), NONE);
            due("six", x.about(0), 6);
        });
        edge("Terms: OWED, FORCE at first 0, not GONE, also if told later", () -> {
            OwedToWinds x = passed(played("wind 0 weight 1 due 50;wind 0 weight 1 due 50;merge 0 to 1;"), 9);
            x.wind(1, 2, 3);
            due("owed", x.ofWind(2, 3), 0);
            due("force", x.ofWind(2, 4), 0);
            due("gone", x.ofWind(2, 5), 0);
        });
    }

    private static void villages() {
        edge("3: ROOF 0 .. 9", () -> {
            for (int roof = 0; roof <= 9; roof++) {
                OwedToWinds x = new OwedToWinds();
                due("village of roof " + roof, x.village(roof, 1), 0);
                due("its roof", x.ofVillage(0, 0), roof);
            }
        });
        edge("3: NONE for ROOFS below 0", () -> {
            idle("village(-1, 0)", NONE, x -> x.village(-1, 0));
            idle("village(LOW, 0)", NONE, x -> x.village(LOW, 0));
        });
        edge("3: NONE for ROOFS above 9", () -> {
            idle("village(10, 0)", NONE, x -> x.village(10, 0));
            idle("village(HIGH, 0)", NONE, x -> x.village(HIGH, 0));
        });
        edge("3: PURSE 0 .. 9999", () -> {
            for (int purse : new int[] {0, 1, 9998, 9999}) {
                OwedToWinds x = new OwedToWinds();
                due("village of purse " + purse, x.village(0, purse), 0);
                due("its purse", x.ofVillage(0, 1), purse);
            }
        });
        edge("3: NONE for PURSES below 0", () -> idle("village(0, -1)", NONE, x -> x.village(0, -1)));
        edge("3: NONE for PURSES above 9999", () -> {
            idle("village(0, 10000)", NONE, x -> x.village(0, 10000));
            idle("village(0, HIGH)", NONE, x -> x.village(0, HIGH));
        });
        edge("3: its number, one by one, also behind one that was refused", () -> {
            OwedToWinds x = new OwedToWinds();
            for (int i = 0; i < 6; i++) {
                due("refused", x.village(10, 0), NONE);
                due("the next", x.village(i, 0), i);
            }
            for (int i = 0; i < 6; i++) due("as it was told", x.ofVillage(i, 0), i);
        });
        edge("3: NONE if there are 6", () -> idle("the seventh", full(), full(), NONE, x -> x.village(0, 0)));
        edge("3: 5 may have another one", () -> {
            OwedToWinds x = new OwedToWinds();
            for (int i = 0; i < 5; i++) x.village(0, 1);
            due("five", x.about(1), 5);
            due("the sixth", x.village(0, 1), 5);
            due("six", x.about(1), 6);
        });
        edge("Terms: TAKEN at first 0, also if told later", () -> {
            OwedToWinds x = under("blows 9;", "wind 0 weight 1 due 0;village 0 purse 1;day 3;");
            x.village(0, 7);
            due("taken", x.ofVillage(1, 2), 0);
        });
    }

    /** Ten on each of the first five days of a voyage, then one a day: 99 is reached in 54 days. */
    private static OwedToWinds sea() {
        return under("comes day<5;blows 9;", "wind 2 weight 1 due 0;village 0 purse 1;village 0 purse 1;village 0 purse 1;");
    }

    private static void ways() {
        edge("Terms: WAYS at first none", () -> {
            due("voyage(0, 1)", sea().voyage(0, 1, false), -2);
            due("voyage(1, 0)", sea().voyage(1, 0, false), -2);
        });
        edge("4: A WAY of 1", () -> {
            OwedToWinds x = played("village 0 purse 0;village 0 purse 0;");
            yes("way(0, 1, 1)", x.way(0, 1, 1));
            due("1 a day", x.voyage(0, 1, false), 1);
            yes("way(0, 1, 2)", x.way(0, 1, 2));
            due("1 a day", x.voyage(0, 1, false), 2);
        });
        edge("4: A WAY of 99", () -> {
            OwedToWinds x = sea();
            yes("way(0, 1, 99)", x.way(0, 1, 99));
            due("50 in five days, 49 more", x.voyage(0, 1, false), 54);
            yes("way(0, 1, 98)", x.way(0, 1, 98));
            due("50 in five days, 48 more", x.voyage(0, 1, false), 53);
        });
        edge("4: A WAY (0: none)", () -> {
            OwedToWinds x = sea();
            yes("none, as there was", x.way(0, 1, 0));
            due("none", x.voyage(0, 1, false), -2);
            yes("one", x.way(0, 1, 9));
            yes("none any more", x.way(0, 1, 0));
            due("none", x.voyage(0, 1, false), -2);
            due("none", x.voyage(1, 0, false), -2);
        });
        edge("4: False for lengths below 0", () -> {
            idle("way(0, 1, -1)", 0, x -> x.way(0, 1, -1) ? 1 : 0);
            idle("way(0, 1, LOW)", 0, x -> x.way(0, 1, LOW) ? 1 : 0);
        });
        edge("4: False for lengths above 99", () -> {
            idle("way(0, 1, 100)", 0, x -> x.way(0, 1, 100) ? 1 : 0);
            idle("way(0, 1, HIGH)", 0, x -> x.way(0, 1, HIGH) ? 1 : 0);
        });
        edge("4: False for like ones", () -> {
            idle("way(0, 0, 1)", 0, x -> x.way(0, 0, 1) ? 1 : 0);
            idle("way(2, 2, 0)", 0, x -> x.way(2, 2, 0) ? 1 : 0);
        });
        edge("4: False for VILLAGES that aren't told", () -> {
            idle("way(0, 3, 1)", 0, x -> x.way(0, 3, 1) ? 1 : 0);
            idle("way(3, 0, 1)", 0, x -> x.way(3, 0, 1) ? 1 : 0);
            idle("way(-1, 0, 1)", 0, x -> x.way(-1, 0, 1) ? 1 : 0);
            idle("way(0, -1, 1)", 0, x -> x.way(0, -1, 1) ? 1 : 0);
            idle("way(HIGH, LOW, 1)", 0, x -> x.way(HIGH, LOW, 1) ? 1 : 0);
            no("with none told", new OwedToWinds().way(0, 1, 1));
            no("with one told", played("village 0 purse 0;").way(0, 1, 1));
        });
        edge("4: between the first and the last of six", () -> {
            OwedToWinds x = full();
            yes("way(5, 0, 3)", x.way(5, 0, 3));
            no("way(5, 6, 3)", x.way(5, 6, 3));
            no("way(6, 5, 3)", x.way(6, 5, 3));
            due("voyage", x.voyage(0, 5, true), 0);
        });
        edge("Terms: WAYS told, both ways alike", () -> {
            OwedToWinds x = played("village 0 purse 0;village 0 purse 0;");
            x.way(1, 0, 5);
            due("as told", x.voyage(1, 0, false), 5);
            due("the other way", x.voyage(0, 1, false), 5);
            x.way(0, 1, 7);
            due("told anew", x.voyage(1, 0, false), 7);
            due("told anew", x.voyage(0, 1, false), 7);
        });
        edge("Terms: no other WAY by that", () -> {
            OwedToWinds x = sea();
            x.way(0, 1, 5);
            due("to the third", x.voyage(0, 2, false), -2);
            due("from the third", x.voyage(2, 1, false), -2);
        });
    }

    // ---- a day -------------------------------------------------------------------------------------------
    private static void dues() {
        edge("A DAY: if DAY mod 7 is 0", () -> {
            OwedToWinds x = under("blows 1;", "wind 2 weight 1 due 10;");
            for (int days = 1; days <= 15; days++) {
                x.day(1);
                due("owed behind day " + (days - 1), x.ofWind(0, 3), days <= 7 ? 10 : days <= 14 ? 20 : 30);
            }
        });
        edge("A DAY: each WIND that isn't GONE is OWED more", () -> {
            OwedToWinds x = played("wind 0 weight 1 due 10;wind 1 weight 1 due 20;wind 1 weight 1 due 3;merge 0 to 1;day 1;");
            due("the gone one", x.ofWind(0, 3), 0);
            due("the one it is merged into", x.ofWind(1, 3), 30);
            due("the third", x.ofWind(2, 3), 3);
        });
        edge("A DAY: dues by number", () -> {
            OwedToWinds x = under("dues 5+debt 0;", "wind 0 weight 1 due 1;wind 0 weight 1 due 1;");
            x.day(1);
            due("the first", x.ofWind(0, 3), 5);
            due("the second, when the first is owed 5", x.ofWind(1, 3), 10);
            OwedToWinds y = under("dues 5+debt 1;", "wind 0 weight 1 due 1;wind 0 weight 1 due 1;");
            y.day(1);
            due("the first, when the second isn't yet owed", y.ofWind(0, 3), 5);
            due("the second", y.ofWind(1, 3), 5);
        });
        edge("A DAY: dues ahead of blows", () -> due("of 30", played("wind 0 weight 1 due 30;day 1;").ofWind(0, 4), 3));
        edge("A DAY: OWED is 9999 at most", () -> {
            OwedToWinds x = nearlyMostOwed();
            x.image();
            ruled(x, "dues 1;");
            x.day(1);
            due("9998 and 1", x.ofWind(0, 3), 9999);
            x.back();
            ruled(x, "dues 2;");
            x.day(1);
            due("9998 and 2", x.ofWind(0, 3), 9999);
            x.day(7);
            due("9999 and 2", x.ofWind(0, 3), 9999);
            x.back();
            x.day(1);
            due("9998 and 99", x.ofWind(0, 3), 9999);
            x.back();
            ruled(x, "dues 0;");
            x.day(1);
            due("9998 and 0", x.ofWind(0, 3), 9998);
        });
    }

    private static void drawn(int wind, int... weights) {
        OwedToWinds x = new OwedToWinds();
        int all = 0;
        for (int weight : weights) {
            x.wind(2, weight, 0);
            all += weight;
        }
        ruled(x, "blows 1;").day(1);
        due("drawn by 127 mod " + all, x.book(0, 1), wind);
    }

    private static void draws() {
        edge("A DAY: X becoming (X * 353 + 233) mod 30427", () -> {
            int[] row = {127, 14637, 24931, 7473, 21480, 6350, 20612, 4216, 27985};
            OwedToWinds x = played("wind 2 weight 1 due 0;");
            for (int i = 0; i < row.length; i++) {
                due("X on day " + i, x.is(1), row[i]);
                x.day(1);
            }
        });
        edge("A DAY: the first by which WEIGHTS so far are above the draw", () -> {
            drawn(1, 2, 3);
            drawn(0, 3, 2);
            drawn(2, 1, 1, 3);
            drawn(1, 1, 2, 2);
            drawn(1, 1, 1, 1);
            drawn(0, 2, 1);
        });
        edge("A DAY: a draw of all but one is the last one's", () -> {
            drawn(1, 7, 1);
            drawn(1, 1, 7);
            drawn(0, 8);
            drawn(5, 1, 1, 1, 1, 1, 3);
        });
        edge("A DAY: a draw of 0 is the first one's", () -> {
            drawn(0, 1);
            OwedToWinds x = under("blows 1;", "wind 2 weight 1 due 0;wind 2 weight 2 due 0;day 1;");
            x.day(1);
            due("14637 mod 3 is 0", x.book(1, 1), 0);
        });
        edge("A DAY: the WEIGHTS of all that aren't GONE together", () -> {
            OwedToWinds x = under("blows 1;", "wind 2 weight 3 due 0;wind 2 weight 1 due 0;wind 2 weight 1 due 0;merge 0 to 1;");
            x.day(1);
            due("127 mod 5 is 2, below 4", x.book(0, 1), 1);
            x.day(30);
            due("the gone one never comes", x.often(0), 0);
        });
        edge("A DAY: none of these: no draw, calm", () -> {
            OwedToWinds x = under("blows 9;takes 9;", "village 0 purse 50;");
            due("nothing is taken", x.day(3), 0);
            due("X", x.is(1), 127);
            for (int i = 0; i < 3; i++) {
                due("wind of page " + i, x.book(i, 1), NONE);
                due("force of page " + i, x.book(i, 2), 0);
            }
        });
        edge("A DAY: calm of none is of FORCE 0, whatever blew before", () -> {
            OwedToWinds x = under("blows 9;catch force+1;", "village 0 purse 5;");
            x.image();
            x.wind(0, 1, 0);
            x.day(1);
            due("blew", x.book(0, 2), 9);
            x.back();
            x.day(1);
            due("force of the page", x.book(0, 2), 0);
            due("caught by force 0", x.ofVillage(0, 1), 6);
        });
        edge("A DAY: if comes is so of it, its FORCE is blows", () -> {
            OwedToWinds x = under("comes quarter=3;blows 5;", "wind 3 weight 1 due 0;");
            x.day(1);
            due("force", x.ofWind(0, 4), 5);
            due("wind of the page", x.book(0, 1), 0);
            due("force of the page", x.book(0, 2), 5);
        });
        edge("A DAY: if it doesn't come (FORCE 0 then), it is calm", () -> {
            OwedToWinds x = under("comes day=0;blows 5;takes 7;", "wind 3 weight 1 due 0;village 0 purse 50;");
            due("it comes", x.day(1), 7);
            due("it doesn't", x.day(1), 0);
            due("force", x.ofWind(0, 4), 0);
            due("wind of the page", x.book(1, 1), NONE);
            due("force of the page", x.book(1, 2), 0);
            due("a draw all the same", x.is(1), 24931);
        });
        edge("A DAY: if blows is 0, it is calm", () -> {
            OwedToWinds x = under("blows 1-day;takes 7;", "wind 3 weight 1 due 0;village 0 purse 50;");
            due("1", x.day(1), 7);
            due("0", x.day(1), 0);
            due("force", x.ofWind(0, 4), 0);
            due("wind of the page", x.book(1, 1), NONE);
            due("force of the page", x.book(1, 2), 0);
        });
        edge("A DAY: the FORCE of those that aren't drawn stays", () -> {
            // 127 mod 2 is 1, 14637 mod 2, 24931 mod 2, 7473 mod 2 too; 21480 mod 2 is 0.
            OwedToWinds x = under("blows 9-day;", "wind 3 weight 1 due 0;wind 3 weight 1 due 0;");
            x.day(5);
            due("of the fourth day", x.ofWind(1, 4), 6);
            due("of the fifth day", x.ofWind(0, 4), 5);
        });
    }

    private static void purses() {
        edge("A DAY: takes (if it isn't calm)", () -> {
            OwedToWinds x = under("blows 1-day;takes 5;catch 0;", "wind 0 weight 1 due 0;village 0 purse 50;");
            x.day(1);
            due("purse", x.ofVillage(0, 1), 45);
            x.day(1);
            due("purse", x.ofVillage(0, 1), 45);
            due("taken", x.ofVillage(0, 2), 5);
        });
        edge("A DAY: PURSE is less by it (0 at least)", () -> {
            OwedToWinds x = under("blows 1;takes 5;catch 0;", "wind 0 weight 1 due 0;village 0 purse 4;village 0 purse 5;village 0 purse 6;");
            x.day(1);
            due("4 less 5", x.ofVillage(0, 1), 0);
            due("5 less 5", x.ofVillage(1, 1), 0);
            due("6 less 5", x.ofVillage(2, 1), 1);
        });
        edge("A DAY: TAKEN more by it (whole)", () -> {
            OwedToWinds x = under("blows 1;takes 5;catch 0;", "wind 0 weight 1 due 0;village 0 purse 4;village 0 purse 0;");
            due("of both", x.day(1), 10);
            due("of 4", x.ofVillage(0, 2), 5);
            due("of 0", x.ofVillage(1, 2), 5);
            due("written down", x.book(0, 3), 10);
            x.day(1);
            due("more by it", x.ofVillage(0, 2), 10);
        });
        edge("A DAY: then catch", () -> {
            OwedToWinds x = under("blows 1;takes 5;catch 3;", "wind 0 weight 1 due 0;village 0 purse 4;village 0 purse 9999;");
            x.day(1);
            due("4 less 5 is 0, and 3", x.ofVillage(0, 1), 3);
            due("9999 less 5, and 3", x.ofVillage(1, 1), 9997);
            OwedToWinds y = under("blows 1;takes 4;catch purse;", "wind 0 weight 1 due 0;village 0 purse 10;");
            y.day(1);
            due("10 less 4, and 6", y.ofVillage(0, 1), 12);
        });
        edge("A DAY: catch: PURSE is 9999 at most", () -> {
            String deeds = "wind 0 weight 1 due 0;village 0 purse 9997;village 0 purse 9998;village 0 purse 9999;";
            OwedToWinds x = under("blows 1;takes 0;catch 2;", deeds);
            x.day(1);
            for (int i = 0; i < 3; i++) due("and 2", x.ofVillage(i, 1), 9999);
            OwedToWinds y = under("blows 1;takes 0;catch 1;", deeds);
            y.day(1);
            due("9997 and 1", y.ofVillage(0, 1), 9998);
            due("9998 and 1", y.ofVillage(1, 1), 9999);
            due("9999 and 1", y.ofVillage(2, 1), 9999);
            OwedToWinds z = under("blows 0;catch 2;", deeds);
            z.day(1);
            for (int i = 0; i < 3; i++) due("and 2 in calm", z.ofVillage(i, 1), 9999);
        });
        edge("A DAY: catch (also in calm, of no WIND then)", () -> {
            OwedToWinds x = under("blows 5-day*9;takes 0;catch 1+quarter+owed+due+weight+force*10;", "wind 3 weight 5 due 7;village 0 purse 0;");
            x.day(1);
            due("1 + 3 + 7 + 7 + 5 + 50", x.ofVillage(0, 1), 73);
            x.day(1);
            due("1 in calm", x.ofVillage(0, 1), 74);
        });
        edge("A DAY: It is written down; DAY is one more", () -> {
            OwedToWinds x = under("blows day+1;takes force*2;", "wind 3 weight 1 due 0;village 0 purse 50;");
            x.day(2);
            int[][] pages = {{0, 0, 1, 2}, {1, 0, 2, 4}};
            for (int i = 0; i < 2; i++) {
                for (int what = 0; what < 4; what++) due("page " + i + ", " + what, x.book(i, what), pages[i][what]);
            }
            due("day", x.is(0), 2);
        });
        edge("A DAY: at 9999 none can pass", () -> {
            OwedToWinds x = passed(played("wind 0 weight 1 due 9;village 0 purse 5;"), 9998);
            due("day", x.is(0), 9998);
            yes("one can", x.day(1) >= 0);
            due("day", x.is(0), 9999);
            due("its page", x.book(29, 0), 9998);
            due("none can", x.day(1), NONE);
            due("day", x.is(0), 9999);
            due("steps", x.about(4), 30);
            due("pages", x.book(29, 0), 9998);
        });
    }

    private static void days() {
        edge("12: DAYS pass (1 .. 60)", () -> {
            OwedToWinds x = new OwedToWinds();
            due("1", x.day(1), 0);
            due("day", x.is(0), 1);
            due("60", x.day(60), 0);
            due("day", x.is(0), 61);
        });
        edge("12: NONE for less than 1", () -> {
            idle("day(0)", NONE, x -> x.day(0));
            idle("day(-1)", NONE, x -> x.day(-1));
            idle("day(LOW)", NONE, x -> x.day(LOW));
        });
        edge("12: NONE for more than 60", () -> {
            idle("day(61)", NONE, x -> x.day(61));
            idle("day(HIGH)", NONE, x -> x.day(HIGH));
        });
        edge("12: NONE beyond 9999 (nothing is done then)", () -> {
            OwedToWinds x = passed(played("wind 0 weight 1 due 9;"), 9940);
            due("60 of 59", x.day(60), NONE);
            due("day", x.is(0), 9940);
            due("latest page", x.book(29, 0), 9939);
            due("steps", x.about(4), 30);
            int number = x.is(1);
            x.image();
            yes("59 of 59", x.day(59) >= 0);
            due("day", x.is(0), 9999);
            x.back();
            due("X", x.is(1), number);
            yes("58 of 59", x.day(58) >= 0);
            due("2 of 1", x.day(2), NONE);
            yes("1 of 1", x.day(1) >= 0);
            due("1 of 0", x.day(1), NONE);
        });
        edge("12: what is taken in them", () -> {
            OwedToWinds x = under("blows 1;takes day+1;", "wind 0 weight 1 due 0;village 0 purse 0;village 0 purse 0;");
            due("1 and 1, 2 and 2, 3 and 3", x.day(3), 12);
            due("4 and 4", x.day(1), 8);
        });
    }

    // ---- paying and merging --------------------------------------------------------------------------------
    private static void paying() {
        edge("10: PAID: OWED then", () -> {
            OwedToWinds x = played("wind 0 weight 1 due 30;village 0 purse 50;day 1;");
            int purse = x.ofVillage(0, 1);
            due("30 less 7", x.pay(0, 0, 7), 23);
            due("owed", x.ofWind(0, 3), 23);
            due("purse", x.ofVillage(0, 1), purse - 7);
            due("a step", x.about(4), 2);
        });
        edge("10: n pence (1 .. 999)", () -> {
            due("1", played("wind 0 weight 1 due 0;village 0 purse 9999;").pay(0, 0, 1), -1);
            due("999", played("wind 0 weight 1 due 0;village 0 purse 9999;").pay(0, 0, 999), -999);
        });
        edge("10: -1000 for less than 1 penny", () -> {
            idle("pay(0, 1, 0)", -1000, x -> x.pay(0, 1, 0));
            idle("pay(0, 1, -1)", -1000, x -> x.pay(0, 1, -1));
            idle("pay(0, 1, LOW)", -1000, x -> x.pay(0, 1, LOW));
        });
        edge("10: -1000 for more than 999 pence, though PURSE and OWED have it", () -> {
            OwedToWinds x = passed(played("wind 0 weight 1 due 99;village 0 purse 9999;"), 121);
            int purse = x.ofVillage(0, 1);
            yes("the purse has 1000", purse > 1000);
            due("owed", x.ofWind(0, 3), 18 * 99);
            due("1000", x.pay(0, 0, 1000), -1000);
            due("HIGH", x.pay(0, 0, HIGH), -1000);
            due("owed", x.ofWind(0, 3), 18 * 99);
            due("purse", x.ofVillage(0, 1), purse);
            due("the latest step is a day", x.undo() * 1000 + x.is(0), 29120);
            due("999", x.pay(0, 0, 999), 18 * 99 - 999);
        });
        edge("10: no more than PURSE", () -> {
            String deeds = "wind 0 weight 1 due 0;village 0 purse 7;";
            idle("8 of 7", played(deeds), played(deeds), -1000, x -> x.pay(0, 0, 8));
            OwedToWinds x = played(deeds);
            due("7 of 7", x.pay(0, 0, 7), -7);
            due("purse", x.ofVillage(0, 1), 0);
            due("1 of 0", x.pay(0, 0, 1), -1000);
        });
        edge("10: if OWED would be below -999, it can't be", () -> {
            String deeds = "wind 0 weight 1 due 0;village 0 purse 9999;pay 0 to 0 of 500;";
            idle("500 of -500", played(deeds), played(deeds), -1000, x -> x.pay(0, 0, 500));
            OwedToWinds x = played(deeds);
            due("499 of -500", x.pay(0, 0, 499), -999);
            due("1 of -999", x.pay(0, 0, 1), -1000);
        });
        edge("10: a WIND that isn't GONE", () -> idle("to the gone one", -1000, x -> x.pay(0, 0, 1)));
        edge("10: -1000 for others", () -> {
            idle("village -1", -1000, x -> x.pay(-1, 1, 1));
            idle("village 3", -1000, x -> x.pay(3, 1, 1));
            idle("village HIGH", -1000, x -> x.pay(HIGH, 1, 1));
            idle("wind -1", -1000, x -> x.pay(0, -1, 1));
            idle("wind 3", -1000, x -> x.pay(0, 3, 1));
            idle("wind LOW", -1000, x -> x.pay(0, LOW, 1));
            due("none told", new OwedToWinds().pay(0, 0, 1), -1000);
            due("no village", played("wind 0 weight 1 due 0;").pay(0, 0, 1), -1000);
            due("no wind", played("village 0 purse 9;").pay(0, 0, 1), -1000);
        });
        edge("PAID: what is TAKEN stays", () -> {
            OwedToWinds x = played("wind 0 weight 1 due 0;village 0 purse 7;pay 0 to 0 of 7;");
            due("taken", x.ofVillage(0, 2), 0);
            due("pages", x.book(NONE, 0), 0);
        });
    }

    /** Two winds that are owed so much, by 60 weeks' dues of which the rest is paid. */
    private static OwedToWinds owedBoth(int first, int second) {
        OwedToWinds x = passed(played("wind 0 weight 1 due 99;wind 0 weight 1 due 99;village 9 purse 9999;"), 414);
        for (int i = 0; i < 20; i++) {
            int wind = i % 2;
            x.pay(0, wind, Math.min(999, x.ofWind(wind, 3) - (wind == 0 ? first : second)));
        }
        due("owed", x.ofWind(0, 3), first);
        due("owed", x.ofWind(1, 3), second);
        return x;
    }

    private static OwedToWinds overpaid(int first, int second) {
        return played("wind 0 weight 1 due 0;wind 0 weight 1 due 0;village 0 purse 9999;pay 0 to 0 of " + -first
                + ";pay 0 to 1 of " + -second + ";");
    }

    private static void merging() {
        edge("11: MERGED: its OWED then", () -> {
            OwedToWinds x = played("wind 0 weight 1 due 30;wind 1 weight 2 due 40;day 1;");
            due("into the second", x.merge(0, 1), 70);
            due("a step", x.about(4), 2);
        });
        edge("MERGED: OWED 9999 at most", () -> {
            due("4059 and 5939", owedBoth(4059, 5939).merge(0, 1), 9998);
            due("4059 and 5940", owedBoth(4059, 5940).merge(0, 1), 9999);
            due("4060 and 5940", owedBoth(4060, 5940).merge(0, 1), 9999);
            due("5940 and 5940", owedBoth(5940, 5940).merge(1, 0), 9999);
        });
        edge("MERGED: OWED not below -999", () -> {
            due("-499 and -499", overpaid(-499, -499).merge(0, 1), -998);
            due("-500 and -499", overpaid(-500, -499).merge(0, 1), -999);
            due("-500 and -500", overpaid(-500, -500).merge(1, 0), -999);
            due("-999 and -999", overpaid(-999, -999).merge(0, 1), -999);
        });
        edge("MERGED: that one's WEIGHT, DUE are more by its own, of six as of two", () -> {
            OwedToWinds x = new OwedToWinds();
            for (int i = 0; i < 6; i++) x.wind(0, 9, 99);
            for (int i = 1; i < 6; i++) {
                x.merge(i, 0);
                due("weight", x.ofWind(0, 1), 9 * (i + 1));
                due("due", x.ofWind(0, 2), 99 * (i + 1));
            }
        });
        edge("MERGED: the greater FORCE is that one's", () -> {
            // Drawn are 1, 1, 1, 1, 0: of blows 9-day 9, 8, 7, 6, 5.
            String deeds = "wind 0 weight 1 due 0;wind 0 weight 1 due 0;";
            OwedToWinds x = under("blows 9-day;", deeds);
            x.day(5);
            x.image();
            x.merge(0, 1);
            due("5 into 6", x.ofWind(1, 4), 6);
            due("5 stays", x.ofWind(0, 4), 5);
            x.back();
            x.merge(1, 0);
            due("6 into 5", x.ofWind(0, 4), 6);
            due("6 stays", x.ofWind(1, 4), 6);
        });
        edge("MERGED: it is GONE (what is told of it, OWED too, stays)", () -> {
            OwedToWinds x = played("wind 3 weight 4 due 30;wind 1 weight 2 due 40;day 1;");
            int force = x.ofWind(0, 4);
            x.merge(0, 1);
            int[] told = {3, 4, 30, 30, force, 1};
            for (int what = 0; what <= 5; what++) due("of the gone one, " + what, x.ofWind(0, what), told[what]);
            due("the other isn't gone", x.ofWind(1, 5), 0);
            due("its quarter stays", x.ofWind(1, 0), 1);
        });
        edge("11: -1000: into another one", () -> {
            idle("merge(1, 1)", -1000, x -> x.merge(1, 1));
            idle("merge(2, 2)", -1000, x -> x.merge(2, 2));
        });
        edge("11: -1000: neither GONE", () -> {
            idle("a gone one", -1000, x -> x.merge(0, 1));
            idle("into a gone one", -1000, x -> x.merge(1, 0));
        });
        edge("11: -1000 for others", () -> {
            idle("merge(-1, 1)", -1000, x -> x.merge(-1, 1));
            idle("merge(3, 1)", -1000, x -> x.merge(3, 1));
            idle("merge(1, -1)", -1000, x -> x.merge(1, -1));
            idle("merge(1, 3)", -1000, x -> x.merge(1, 3));
            idle("merge(LOW, HIGH)", -1000, x -> x.merge(LOW, HIGH));
            due("none told", new OwedToWinds().merge(0, 1), -1000);
            due("one told", played("wind 0 weight 1 due 0;").merge(0, 1), -1000);
        });
    }

    // ---- steps -------------------------------------------------------------------------------------------
    private static void steps() {
        edge("STEPS: a DAY (each), PAID, MERGED, YEARS", () -> {
            OwedToWinds x = played("wind 0 weight 1 due 0;wind 0 weight 1 due 0;village 0 purse 50;");
            due("told", x.about(4), 0);
            x.day(3);
            due("3 days", x.about(4), 3);
            x.pay(0, 0, 1);
            due("paid", x.about(4), 4);
            x.merge(0, 1);
            due("merged", x.about(4), 5);
            x.years(1, 40);
            due("years", x.about(4), 6);
        });
        edge("STEPS: nothing else is one", () -> {
            OwedToWinds x = full();
            x.day(1);
            x.way(0, 1, 2);
            tell(x, "day 1 1;");
            x.by(tell(x, "dues 1;"));
            x.played(0);
            x.took(0, 0);
            x.sail(0);
            x.kind(1);
            x.image();
            x.pay(0, 0, 1000);
            x.merge(0, 0);
            x.day(61);
            x.years(-1, 1);
            due("steps", x.about(4), 1);
        });
        edge("15: how many can be yet; NONE: there is none", () -> {
            OwedToWinds x = new OwedToWinds();
            due("none yet", x.undo(), NONE);
            x.day(2);
            due("two", x.undo(), 1);
            due("one", x.undo(), 0);
            due("none", x.undo(), NONE);
            due("none", x.about(4), 0);
            due("day", x.is(0), 0);
            idle("with none", new OwedToWinds(), new OwedToWinds(), NONE, y -> y.undo());
        });
        edge("STEPS: the latest 30 can be taken back: of 30 all", () -> {
            OwedToWinds x = passed(played("wind 0 weight 1 due 5;village 0 purse 9;"), 30);
            due("steps", x.about(4), 30);
            for (int i = 29; i >= 0; i--) due("undo", x.undo(), i);
            due("undo", x.undo(), NONE);
            alike("at its beginning", x, played("wind 0 weight 1 due 5;village 0 purse 9;"));
        });
        edge("STEPS: the latest 30 can be taken back: the 31st not", () -> {
            OwedToWinds x = passed(played("wind 0 weight 1 due 5;village 0 purse 9;"), 31);
            due("steps", x.about(4), 30);
            for (int i = 29; i >= 0; i--) due("undo", x.undo(), i);
            due("undo", x.undo(), NONE);
            due("day", x.is(0), 1);
            due("X", x.is(1), 14637);
        });
        edge("STEPS: the 31st of any kind", () -> {
            OwedToWinds x = played("wind 0 weight 1 due 5;wind 0 weight 1 due 5;village 0 purse 99;");
            for (int i = 0; i < 28; i++) x.pay(0, 0, 1);
            x.day(1);
            x.merge(0, 1);
            due("thirty", x.about(4), 30);
            x.years(1, 1);
            due("thirty yet", x.about(4), 30);
            for (int i = 29; i >= 0; i--) due("undo", x.undo(), i);
            due("undo", x.undo(), NONE);
            due("the first penny is paid", x.ofWind(0, 3), -1);
            due("the first penny is paid", x.ofVillage(0, 1), 98);
        });
        edge("STEPS: thirty more can be done behind thirty taken back", () -> {
            OwedToWinds x = passed(new OwedToWinds(), 40);
            for (int i = 0; i < 30; i++) x.undo();
            x.day(3);
            due("undo", x.undo(), 2);
            due("undo", x.undo(), 1);
            due("undo", x.undo(), 0);
            due("undo", x.undo(), NONE);
            due("day", x.is(0), 10);
        });
        edge("STEPS: the latest first", () -> {
            OwedToWinds x = played("wind 0 weight 1 due 0;wind 0 weight 1 due 0;village 0 purse 50;pay 0 to 0 of 5;pay 0 to 1 of 7;");
            due("undo", x.undo(), 1);
            due("the second payment", x.ofWind(1, 3), 0);
            due("the first payment", x.ofWind(0, 3), -5);
        });
        takenBack();
    }

    private static void takenBack() {
        edge("STEPS: OWED, FORCE, WEIGHT, DUE, who is GONE are as ahead of it", () -> {
            OwedToWinds x = played("wind 1 weight 2 due 30;wind 2 weight 3 due 40;day 1;");
            OwedToWinds same = played("wind 1 weight 2 due 30;wind 2 weight 3 due 40;day 1;");
            x.merge(0, 1);
            x.undo();
            alike("a merging taken back", x, same);
        });
        edge("STEPS: OWED, PURSES are as ahead of it", () -> {
            OwedToWinds x = busy();
            x.pay(0, 1, 1);
            x.undo();
            alike("a payment taken back", x, busy());
        });
        edge("STEPS: PURSES, TAKEN, DAY, X, BOOK are as ahead of it", () -> {
            OwedToWinds x = busy();
            x.day(1);
            x.undo();
            alike("a day taken back", x, busy());
        });
        edge("STEPS: all is as ahead of YEARS", () -> {
            OwedToWinds x = busy();
            x.years(77, 40);
            x.undo();
            alike("years taken back", x, busy());
        });
        edge("STEPS: BOOK as ahead of it, also of the 31st page", () -> {
            OwedToWinds x = passed(played("wind 0 weight 1 due 20;village 0 purse 5;"), 30);
            int took = x.book(0, 3);
            x.day(1);
            due("eldest", x.book(0, 0), 1);
            x.undo();
            due("pages", x.book(NONE, 0), 30);
            due("eldest", x.book(0, 0), 0);
            due("what it took", x.book(0, 3), took);
            due("latest", x.book(29, 0), 29);
        });
        edge("STEPS: a WIND told since is as told", () -> {
            OwedToWinds x = played("village 0 purse 50;day 1;");
            x.wind(3, 2, 20);
            x.wind(1, 4, 10);
            x.day(13);
            x.pay(0, 1, 3);
            x.merge(0, 1);
            for (int i = 0; i < 16; i++) x.undo();
            due("day", x.is(0), 0);
            due("winds", x.about(0), 2);
            int[][] told = {{3, 2, 20, 0, 0, 0}, {1, 4, 10, 0, 0, 0}};
            for (int wind = 0; wind < 2; wind++) {
                for (int what = 0; what <= 5; what++) due("of wind " + wind + ", " + what, x.ofWind(wind, what), told[wind][what]);
            }
        });
        edge("STEPS: a VILLAGE told since is as told", () -> {
            OwedToWinds x = under("blows 9;", "wind 0 weight 1 due 0;day 1;");
            x.village(3, 44);
            x.day(5);
            for (int i = 0; i < 6; i++) x.undo();
            due("villages", x.about(1), 1);
            due("roof", x.ofVillage(0, 0), 3);
            due("purse", x.ofVillage(0, 1), 44);
            due("taken", x.ofVillage(0, 2), 0);
        });
        edge("STEPS: told ahead of the latest step, it is as ahead of that", () -> {
            OwedToWinds x = new OwedToWinds();
            x.day(1);
            x.wind(3, 2, 20);
            x.day(7);
            x.day(1);
            x.undo();
            due("owed on day 7", x.ofWind(0, 3), 20);
            x.undo();
            due("owed on day 6", x.ofWind(0, 3), 0);
        });
        edge("STEPS: WAYS, THE TEXT, lists, tape are not taken back", () -> {
            OwedToWinds x = played("village 0 purse 50;village 0 purse 50;day 1;");
            x.way(0, 1, 3);
            x.by(tell(x, "dues 1;"));
            x.took(0, 1);
            x.sail(2);
            x.kind(3);
            x.feed(0, 0, 0, 0, 0);
            x.undo();
            due("way", x.voyage(0, 1, false), 3);
            int[] about = {0, 2, 2, 1, 0, 1, 1, 1, 20};
            for (int what = 0; what <= 8; what++) due("about " + what, x.about(what), about[what]);
        });
    }

    // ---- what is asked of it -----------------------------------------------------------------------------
    private static void asked() {
        edge("16: Of a WIND: 0 .. 5", () -> {
            OwedToWinds x = played("wind 3 weight 4 due 55;wind 0 weight 1 due 0;day 1;");
            // 127 mod 5 is 2: the first one.
            int[] told = {3, 4, 55, 55, 5, 0};
            for (int what = 0; what <= 5; what++) due("ofWind(0, " + what + ")", x.ofWind(0, what), told[what]);
            x.merge(0, 1);
            due("GONE", x.ofWind(0, 5), 1);
            due("not GONE", x.ofWind(1, 5), 0);
        });
        edge("16: 6 blows now, 7 whether it would come (1, 0), 8 dues now", () -> {
            OwedToWinds x = under("comes day=0;blows 3+day;dues 20-day;", "wind 3 weight 4 due 55;");
            due("blows", x.ofWind(0, 6), 3);
            due("comes", x.ofWind(0, 7), 1);
            due("dues", x.ofWind(0, 8), 20);
            x.day(1);
            due("blows", x.ofWind(0, 6), 4);
            due("comes", x.ofWind(0, 7), 0);
            due("dues", x.ofWind(0, 8), 19);
        });
        edge("16: -1000 for others", () -> {
            idle("ofWind(0, -1)", -1000, x -> x.ofWind(0, -1));
            idle("ofWind(0, 9)", -1000, x -> x.ofWind(0, 9));
            idle("ofWind(-1, 0)", -1000, x -> x.ofWind(-1, 0));
            idle("ofWind(3, 0)", -1000, x -> x.ofWind(3, 0));
            idle("ofWind(HIGH, LOW)", -1000, x -> x.ofWind(HIGH, LOW));
            due("the sixth", full().ofWind(5, 1), 6);
            due("the seventh", full().ofWind(6, 1), -1000);
        });
        edge("17: Of a VILLAGE: 0 .. 2, 3 catch in calm now", () -> {
            OwedToWinds x = under("blows 1;takes 5;catch day+2;", "wind 0 weight 1 due 0;village 7 purse 50;");
            x.day(1);
            due("roof", x.ofVillage(0, 0), 7);
            due("purse", x.ofVillage(0, 1), 47);
            due("taken", x.ofVillage(0, 2), 5);
            due("catch", x.ofVillage(0, 3), 3);
            x.by(NONE);
            due("catch without a law", x.ofVillage(0, 3), 0);
        });
        edge("17: NONE for others", () -> {
            idle("ofVillage(0, -1)", NONE, x -> x.ofVillage(0, -1));
            idle("ofVillage(0, 4)", NONE, x -> x.ofVillage(0, 4));
            idle("ofVillage(-1, 0)", NONE, x -> x.ofVillage(-1, 0));
            idle("ofVillage(3, 0)", NONE, x -> x.ofVillage(3, 0));
            idle("ofVillage(LOW, HIGH)", NONE, x -> x.ofVillage(LOW, HIGH));
            due("the sixth", full().ofVillage(5, 0), 5);
            due("the seventh", full().ofVillage(6, 0), NONE);
        });
        edge("18: takes: FORCE f (1 .. 9)", () -> {
            OwedToWinds x = under("takes force;", "wind 0 weight 1 due 0;village 0 purse 0;");
            for (int f = 1; f <= 9; f++) due("takes with " + f, x.takes(0, 0, f), f);
            due("takes with 0", x.takes(0, 0, 0), NONE);
            due("takes with 10", x.takes(0, 0, 10), NONE);
            due("takes with -1", x.takes(0, 0, -1), NONE);
        });
        edge("18: takes: NONE for others", () -> {
            idle("wind -1", NONE, x -> x.takes(-1, 0, 1));
            idle("wind 3", NONE, x -> x.takes(3, 0, 1));
            idle("village -1", NONE, x -> x.takes(0, -1, 1));
            idle("village 3", NONE, x -> x.takes(0, 3, 1));
            idle("FORCE HIGH", NONE, x -> x.takes(0, 0, HIGH));
            due("none told", new OwedToWinds().takes(0, 0, 1), NONE);
            due("the sixth", full().takes(5, 5, 9), 4);
            due("the seventh wind", full().takes(6, 5, 9), NONE);
            due("the seventh village", full().takes(5, 6, 9), NONE);
        });
        edge("18: takes changes nothing", () -> idle("takes(1, 0, 9)", 8, x -> x.takes(1, 0, 9)));
        edge("19: catches: FORCE f (1 .. 9)", () -> {
            OwedToWinds x = under("catch force;", "wind 0 weight 1 due 0;village 0 purse 0;");
            for (int f = 1; f <= 9; f++) due("catches with " + f, x.catches(0, 0, f), f);
            due("catches with 0", x.catches(0, 0, 0), NONE);
            due("catches with 10", x.catches(0, 0, 10), NONE);
            due("catches with -1", x.catches(0, 0, -1), NONE);
        });
        edge("19: catches: NONE for others", () -> {
            idle("wind -1", NONE, x -> x.catches(-1, 0, 1));
            idle("wind 3", NONE, x -> x.catches(3, 0, 1));
            idle("village -1", NONE, x -> x.catches(0, -1, 1));
            idle("village 3", NONE, x -> x.catches(0, 3, 1));
            due("none told", new OwedToWinds().catches(0, 0, 1), NONE);
            due("the seventh wind", full().catches(6, 5, 9), NONE);
            due("the seventh village", full().catches(5, 6, 9), NONE);
        });
        edge("19: catches changes nothing", () -> idle("catches(1, 0, 9)", 3, x -> x.catches(1, 0, 9)));
        edge("20: 0 DAY, 1 X; -2 for others", () -> {
            OwedToWinds x = played("wind 0 weight 1 due 0;day 4;");
            due("is(0)", x.is(0), 4);
            due("is(1)", x.is(1), 21480);
            idle("is(2)", -2, y -> y.is(2));
            idle("is(-1)", -2, y -> y.is(-1));
            idle("is(HIGH)", -2, y -> y.is(HIGH));
        });
    }

    private static void book() {
        edge("BOOK (the latest 30 days): 29 of them", () -> {
            OwedToWinds x = passed(new OwedToWinds(), 29);
            due("how many", x.book(NONE, 0), 29);
            due("the eldest", x.book(0, 0), 0);
            due("the latest", x.book(28, 0), 28);
            due("none such", x.book(29, 0), -2);
        });
        edge("BOOK (the latest 30 days): 30 of them", () -> {
            OwedToWinds x = passed(new OwedToWinds(), 30);
            due("how many", x.book(NONE, 0), 30);
            due("the eldest", x.book(0, 0), 0);
            due("the latest", x.book(29, 0), 29);
            due("none such", x.book(30, 0), -2);
        });
        edge("BOOK (the latest 30 days): the 31st", () -> {
            OwedToWinds x = under("blows 1;takes day+1;", "wind 0 weight 1 due 0;village 0 purse 0;");
            x.day(31);
            due("how many", x.book(NONE, 0), 30);
            for (int i = 0; i < 30; i++) {
                due("day of page " + i, x.book(i, 0), i + 1);
                due("what it took", x.book(i, 3), i + 2);
            }
            due("none such", x.book(30, 0), -2);
        });
        edge("BOOK: long behind its thirtieth page", () -> {
            OwedToWinds x = passed(played("wind 0 weight 1 due 0;"), 9999);
            due("how many", x.book(NONE, 0), 30);
            due("the eldest", x.book(0, 0), 9969);
            due("the latest", x.book(29, 0), 9998);
        });
        edge("21: 0 DAY, 1 WIND, 2 FORCE, 3 what it took; -2 for others", () -> {
            OwedToWinds x = under("blows 9;takes 99;", "wind 0 weight 1 due 0;village 0 purse 0;village 0 purse 0;");
            x.day(1);
            int[] page = {0, 0, 9, 198};
            for (int what = 0; what <= 3; what++) due("book(0, " + what + ")", x.book(0, what), page[what]);
            idle("book(0, 4)", -2, y -> y.book(0, 4));
            idle("book(0, -1)", -2, y -> y.book(0, -1));
        });
        edge("21: -2 if there is none such", () -> {
            idle("book(-2, 0)", -2, x -> x.book(-2, 0));
            idle("book(HIGH, 0)", -2, x -> x.book(HIGH, 0));
            idle("behind the latest", -2, x -> x.book(x.book(NONE, 0), 0));
            due("the first of none", new OwedToWinds().book(0, 0), -2);
        });
        edge("BOOK: six winds, six villages, the most of each", () -> {
            OwedToWinds x = ruled(full(), "blows 9;takes 99;");
            x.day(30);
            for (int i = 0; i < 30; i++) {
                due("force", x.book(i, 2), 9);
                due("what it took", x.book(i, 3), 594);
            }
            yes("the last one was among them", x.often(5) > 0);
        });
    }

    public static void main(String[] args) {
        aNewObject();
        winds();
        villages();
        ways();
        dues();
        draws();
        purses();
        days();
        paying();
        merging();
        steps();
        asked();
        book();
        end();
    }
}
