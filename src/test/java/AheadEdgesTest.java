/**
 * One test for each sentence of part III that names an edge: what is foretold, arrears, broke, whose law, odds,
 * the least to pay, shares and voyages; by few days and by most, at DAY's last, of none and of like ones.
 */
public final class AheadEdgesTest extends Checks {
    private static final String ONE_EACH = "wind 2 weight 1 due 9;village 0 purse 70;";

    /** One wind that takes 1 from one village each day, so many days ahead of DAY's last. */
    private static OwedToWinds late(int daysLeft) {
        return passed(under("blows 1;takes 1;catch 0;dues 0;", ONE_EACH), 9999 - daysLeft);
    }

    private static void foretold() {
        edge("22: FORETOLD behind n DAYS (1 .. 60)", () -> {
            OwedToWinds x = under("blows 1;takes 1;catch 0;", ONE_EACH);
            due("1", x.foretold(1), 1);
            due("2", x.foretold(2), 2);
            due("59", x.foretold(59), 59);
            due("60", x.foretold(60), 60);
        });
        edge("22: NONE for others", () -> {
            for (int n : new int[] {0, -1, LOW, 61, HIGH}) idle("foretold(" + n + ")", NONE, x -> x.foretold(n));
        });
        edge("22: those that can pass", () -> {
            OwedToWinds x = late(2);
            due("1", x.foretold(1), 1);
            due("2", x.foretold(2), 2);
            due("3", x.foretold(3), 2);
            due("60", x.foretold(60), 2);
            x.day(2);
            due("none", x.foretold(1), 0);
            due("none", x.foretold(60), 0);
        });
        edge("22: what is taken in these from all (whole)", () -> {
            OwedToWinds x = under("blows 1;takes 7;catch 0;", "wind 2 weight 1 due 9;village 0 purse 0;village 0 purse 8;village 0 purse 99;");
            due("one day", x.foretold(1), 21);
            due("two days", x.foretold(2), 42);
        });
        edge("22: none told", () -> due("foretold", new OwedToWinds().foretold(60), 0));
        edge("23: the PURSE of a VILLAGE", () -> {
            OwedToWinds x = under("blows 1;takes 1;catch 0;", ONE_EACH);
            due("1", x.purse(1, 0), 69);
            due("60", x.purse(60, 0), 10);
        });
        edge("23: of each VILLAGE its own", () -> {
            OwedToWinds x = under("blows 1;takes roof;catch 0;", "wind 2 weight 1 due 9;village 1 purse 50;village 2 purse 60;village 3 purse 70;");
            due("the first", x.purse(4, 0), 46);
            due("the second", x.purse(4, 1), 52);
            due("the third", x.purse(4, 2), 58);
        });
        edge("23: NONE for others", () -> {
            for (int n : new int[] {0, -1, 61, HIGH}) idle("purse(" + n + ", 0)", NONE, x -> x.purse(n, 0));
            for (int v : new int[] {-1, 3, HIGH}) idle("purse(1, " + v + ")", NONE, x -> x.purse(1, v));
            due("none told", new OwedToWinds().purse(1, 0), NONE);
        });
        edge("23: those that can pass", () -> {
            OwedToWinds x = passed(new OwedToWinds(), 9997);
            x.village(0, 5);
            ruled(x, "catch 1;");
            due("1", x.purse(1, 0), 6);
            due("2", x.purse(2, 0), 7);
            due("3", x.purse(3, 0), 7);
            x.day(2);
            due("none", x.purse(60, 0), 7);
        });
        edge("23: PURSE 0 at least, 9999 at most in these too", () -> {
            due("purse", under("blows 1;takes 9;catch 0;", "wind 0 weight 1 due 0;village 0 purse 10;").purse(2, 0), 0);
            due("purse", under("blows 1;takes 0;catch 9;", "wind 0 weight 1 due 0;village 0 purse 9989;").purse(2, 0), 9999);
        });
        edge("24: what a WIND is OWED", () -> {
            OwedToWinds x = played("wind 0 weight 1 due 20;");
            due("1", x.owed(1, 0), 20);
            due("7", x.owed(7, 0), 20);
            due("8", x.owed(8, 0), 40);
            due("57", x.owed(57, 0), 180);
            due("60", x.owed(60, 0), 180);
        });
        edge("24: -1000 for others", () -> {
            for (int n : new int[] {0, -1, 61, HIGH}) idle("owed(" + n + ", 1)", -1000, x -> x.owed(n, 1));
            for (int w : new int[] {-1, 3, HIGH}) idle("owed(1, " + w + ")", -1000, x -> x.owed(1, w));
            due("none told", new OwedToWinds().owed(1, 0), -1000);
        });
        edge("24: of a GONE one what it is", () -> {
            OwedToWinds x = played("wind 0 weight 1 due 20;wind 0 weight 1 due 30;day 1;merge 0 to 1;");
            due("gone", x.owed(60, 0), 20);
            due("the other one, by 50 on eight days", x.owed(60, 1), 50 + 8 * 50);
        });
        edge("24: those that can pass", () -> {
            // Day 9996 is a day of dues (7 times 1428).
            OwedToWinds x = passed(new OwedToWinds(), 9996);
            x.wind(0, 1, 20);
            due("1", x.owed(1, 0), 20);
            due("60", x.owed(60, 0), 20);
            x.day(3);
            due("none", x.owed(60, 0), 20);
        });
        edge("24: OWED 9999 at most in these too", () -> {
            OwedToWinds x = passed(played("wind 2 weight 1 due 99;"), 700);
            due("9900 and 99", x.owed(1, 0), 9999);
            due("and 99 more", x.owed(8, 0), 9999);
        });
        edge("III: All that follows changes nothing: FORETOLD", () -> {
            quiet("foretold(60)", x -> x.foretold(60));
            quiet("purse(60, 0)", x -> x.purse(60, 0));
            quiet("owed(60, 2)", x -> x.owed(60, 2));
        });
    }

    private static void arrears() {
        edge("25: in how many DAYS: 1", () -> due("arrears", under("blows 0;", "wind 0 weight 1 due 5;").arrears(), 1));
        edge("25: (60 at most): in 60", () -> due("arrears", under("comes day<59;blows 1;", "wind 0 weight 1 due 5;").arrears(), 60));
        edge("25: (60 at most): in 61", () -> due("arrears", under("comes day<60;blows 1;", "wind 0 weight 1 due 5;").arrears(), NONE));
        edge("25: NONE: none", () -> {
            due("no winds", new OwedToWinds().arrears(), NONE);
            due("no calm", under("blows 1;", "wind 0 weight 1 due 5;").arrears(), NONE);
            due("nothing owed", under("blows 0;dues 0;", "wind 0 weight 1 due 5;").arrears(), NONE);
        });
        edge("25: some WIND is OWED above 0: 1", () -> due("arrears", under("blows 0;dues 1;", "wind 0 weight 1 due 5;").arrears(), 1));
        edge("25: some WIND is OWED above 0: not 0", () -> {
            // Owed -5, then 0, then 5 on day 7.
            OwedToWinds x = under("blows 0;dues 5;", "wind 0 weight 1 due 5;village 0 purse 9;pay 0 to 0 of 5;");
            due("arrears", x.arrears(), 8);
        });
        edge("25: some WIND: another one than was drawn", () -> {
            OwedToWinds x = under("blows 0;dues quarter;", "wind 0 weight 9 due 5;wind 3 weight 1 due 5;");
            due("arrears", x.arrears(), 1);
        });
        edge("25: that isn't GONE", () -> {
            OwedToWinds x = under("blows 0;dues 0;", "wind 0 weight 1 due 5;wind 0 weight 1 due 0;village 0 purse 9;day 1;merge 0 to 1;pay 0 to 1 of 5;");
            due("the gone one is owed", x.ofWind(0, 3), 5);
            due("arrears", x.arrears(), NONE);
        });
        edge("25: at whose end: what is due on it counts", () -> {
            OwedToWinds x = under("comes day#7;blows 1;", "wind 0 weight 1 due 5;village 0 purse 9;pay 0 to 0 of 5;");
            due("on day 7 it is owed 5", x.arrears(), 8);
        });
        edge("25: the first calm at whose end that is so", () -> {
            OwedToWinds x = under("comes day#2 and day#9 and day#12;blows 1;", "wind 0 weight 1 due 5;village 0 purse 9;pay 0 to 0 of 5;");
            due("in 3 it isn't owed", x.arrears(), 10);
        });
        edge("25: those DAYS that can pass", () -> {
            OwedToWinds x = passed(under("comes day<9998;blows 1;", "wind 0 weight 1 due 5;"), 9990);
            due("day 9998", x.arrears(), 9);
            ruled(x, "comes day<9999;blows 1;");
            due("day 9999 can't pass", x.arrears(), NONE);
            x.by(NONE);
            x.day(9);
            due("none can", x.arrears(), NONE);
        });
        edge("III: All that follows changes nothing: ARREARS", () -> quiet("arrears", x -> x.arrears()));
    }

    private static OwedToWinds purseOf(int purse) {
        return under("blows 1;takes 1;catch 0;", "wind 0 weight 1 due 9;village 0 purse " + purse + ";");
    }

    private static void broke() {
        edge("26: 0: it is", () -> due("broke", purseOf(0).broke(0), 0));
        edge("26: 1 day", () -> due("broke", purseOf(1).broke(0), 1));
        edge("26: 60 at most: in 60", () -> due("broke", purseOf(60).broke(0), 60));
        edge("26: 60 at most: in 61", () -> due("broke", purseOf(61).broke(0), NONE));
        edge("26: NONE: none", () -> {
            due("nothing takes", played("village 0 purse 1;").broke(0), NONE);
            due("0 within a day isn't at its end", under("blows 1;takes 9;catch 1;", "wind 0 weight 1 due 9;village 0 purse 5;").broke(0), NONE);
        });
        edge("26: NONE for others", () -> {
            idle("broke(-1)", NONE, x -> x.broke(-1));
            idle("broke(3)", NONE, x -> x.broke(3));
            idle("broke(HIGH)", NONE, x -> x.broke(HIGH));
            due("none told", new OwedToWinds().broke(0), NONE);
        });
        edge("26: each VILLAGE's own", () -> {
            OwedToWinds x = under("blows 1;takes 1;catch 0;", "wind 0 weight 1 due 9;village 0 purse 3;village 0 purse 0;village 0 purse 5;");
            due("the first", x.broke(0), 3);
            due("the second", x.broke(1), 0);
            due("the third", x.broke(2), 5);
        });
        edge("26: those DAYS that can pass", () -> {
            OwedToWinds x = passed(played("wind 0 weight 1 due 0;"), 9990);
            x.village(0, 9);
            x.village(0, 10);
            x.village(0, 0);
            ruled(x, "blows 1;takes 1;catch 0;");
            due("in 9", x.broke(0), 9);
            due("in 10", x.broke(1), NONE);
            x.by(NONE);
            x.day(9);
            due("none can", x.broke(0), NONE);
            due("it is", x.broke(2), 0);
        });
        edge("III: All that follows changes nothing: BROKE", () -> quiet("broke(1)", x -> x.broke(1)));
    }

    private static void whoseLaw() {
        edge("27: NONE: none (no TEXT)", () -> {
            due("no text", new OwedToWinds().whose(1), NONE);
            OwedToWinds x = new OwedToWinds();
            tell(x, "dues 1 1;");
            due("one with a fault is none", x.whose(1), NONE);
        });
        edge("27: NONE for others", () -> {
            for (int n : new int[] {0, -1, 61, HIGH}) idle("whose(" + n + ")", NONE, x -> x.whose(n));
        });
        edge("27: n 1 and 60", () -> {
            OwedToWinds x = new OwedToWinds();
            tell(x, "blows 1;takes 1;");
            tell(x, "blows 1;takes day/59*61;");
            x.wind(0, 1, 0);
            x.village(0, 9);
            due("1 or 0", x.whose(1), 1);
            due("59 or 0", x.whose(59), 1);
            due("60 or 61", x.whose(60), 0);
        });
        edge("27: the one by which least is taken: each of four", () -> {
            for (int least = 0; least < 4; least++) {
                OwedToWinds x = new OwedToWinds();
                for (int i = 0; i < 4; i++) tell(x, "blows 1;takes " + (i == least ? 4 : 5) + ";");
                x.wind(0, 1, 0);
                x.village(0, 9);
                due("whose", x.whose(3), least);
            }
        });
        edge("27: of like ones the lowest", () -> {
            OwedToWinds x = new OwedToWinds();
            for (int takes : new int[] {5, 4, 6, 4}) tell(x, "blows 1;takes " + takes + ";");
            x.wind(0, 1, 0);
            x.village(0, 9);
            due("whose", x.whose(3), 1);
            OwedToWinds y = new OwedToWinds();
            tell(y, "dues 1;");
            tell(y, "dues 0;");
            due("whose, with nothing to take", y.whose(60), 0);
        });
        edge("27: all as now, but THE TEXT, which stays", () -> {
            OwedToWinds x = new OwedToWinds();
            tell(x, "blows 1;takes 9;");
            tell(x, "blows 1;takes 1;");
            x.wind(0, 1, 0);
            x.village(0, 9);
            x.by(0);
            due("whose", x.whose(3), 1);
            due("THE TEXT", x.about(3), 0);
            x.by(NONE);
            due("whose", x.whose(3), 1);
            due("THE TEXT", x.about(3), NONE);
        });
        edge("27: those DAYS that can pass", () -> {
            OwedToWinds x = passed(new OwedToWinds(), 9998);
            tell(x, "blows 1;takes 1;");
            tell(x, "blows 1;takes (9999-day)*0;");
            x.wind(0, 1, 0);
            x.village(0, 9);
            due("one can", x.whose(60), 1);
            x.day(1);
            due("none can: like ones", x.whose(60), 0);
        });
        edge("III: All that follows changes nothing: WHOSE LAW", () -> quiet("whose(60)", x -> x.whose(60)));
    }

    private static void odds(OwedToWinds x, int wind, int n, long upper, long lower) {
        due("odds(" + wind + ", " + n + ", false)", x.odds(wind, n, false), upper);
        due("odds(" + wind + ", " + n + ", true)", x.odds(wind, n, true), lower);
    }

    private static void odds() {
        edge("28: that it is drawn (n 0)", () -> {
            OwedToWinds x = played("wind 0 weight 3 due 0;wind 0 weight 5 due 0;");
            odds(x, 0, 0, 3, 8);
            odds(x, 1, 0, 5, 8);
        });
        edge("28: that it is not drawn in n (1 .. 9) DAYS", () -> {
            OwedToWinds x = played("wind 0 weight 3 due 0;wind 0 weight 5 due 0;");
            long upper = 1, lower = 1;
            for (int n = 1; n <= 9; n++) {
                upper *= 5;
                lower *= 8;
                odds(x, 0, n, upper, lower);
            }
        });
        edge("28: NONE for others", () -> {
            for (int n : new int[] {-1, 10, HIGH, LOW}) {
                idle("odds(1, " + n + ", false)", NONE, x -> x.odds(1, n, false));
                idle("odds(1, " + n + ", true)", NONE, x -> x.odds(1, n, true));
            }
            for (int w : new int[] {-1, 3, HIGH}) idle("odds(" + w + ", 1, false)", NONE, x -> x.odds(w, 1, false));
            due("none told", new OwedToWinds().odds(0, 0, true), NONE);
        });
        edge("28: in lowest terms", () -> {
            OwedToWinds x = played("wind 0 weight 6 due 0;wind 0 weight 3 due 0;");
            odds(x, 0, 0, 2, 3);
            odds(x, 1, 0, 1, 3);
            odds(x, 0, 2, 1, 9);
            odds(x, 1, 3, 8, 27);
        });
        edge("28: of six of the greatest WEIGHT in 9 DAYS", () -> {
            odds(played(times(6, "wind 0 weight 9 due 0;")), 5, 9, 1953125, 10077696);
            odds(played(times(5, "wind 0 weight 9 due 0;") + "wind 0 weight 8 due 0;"), 0, 9, 618121839509504L, 3299763591802133L);
        });
        edge("28: of the only one: 1 by 1, and 0 by 1", () -> {
            OwedToWinds x = played("wind 0 weight 9 due 0;");
            odds(x, 0, 0, 1, 1);
            odds(x, 0, 1, 0, 1);
            odds(x, 0, 9, 0, 1);
        });
        edge("28: of the least WEIGHT", () -> {
            OwedToWinds x = played("wind 0 weight 1 due 0;wind 0 weight 9 due 0;");
            odds(x, 0, 0, 1, 10);
            odds(x, 0, 1, 9, 10);
            odds(x, 0, 2, 81, 100);
            odds(x, 1, 1, 1, 10);
            odds(x, 1, 9, 1, 1000000000L);
        });
        edge("28: 0 by 1, if it is GONE; 1 by 1 not drawn then", () -> {
            OwedToWinds x = played("wind 0 weight 3 due 0;wind 0 weight 5 due 0;merge 0 to 1;");
            odds(x, 0, 0, 0, 1);
            odds(x, 0, 1, 1, 1);
            odds(x, 0, 9, 1, 1);
        });
        edge("28: of WEIGHTS by now", () -> {
            OwedToWinds x = played("wind 0 weight 3 due 0;wind 0 weight 5 due 0;wind 0 weight 8 due 0;merge 0 to 1;");
            odds(x, 1, 0, 1, 2);
            odds(x, 2, 2, 1, 4);
        });
        edge("III: All that follows changes nothing: ODDS", () -> quiet("odds(1, 9, true)", x -> x.odds(1, 9, true)));
    }

    /** Owed 30, 50, 0, -60, and 20 of one that is gone. */
    private static OwedToWinds owing(String takes) {
        return under("takes " + takes + ";blows 1;dues 0;", "wind 0 weight 1 due 30;wind 0 weight 1 due 50;wind 0 weight 1 due 0;"
                + "wind 0 weight 1 due 0;wind 0 weight 1 due 20;village 0 purse 9999;day 1;merge 4 to 2;pay 0 to 2 of 20;pay 0 to 3 of 60;");
    }

    private static void least(OwedToWinds x, int n, int h, int pence, int set) {
        due("least(" + n + ", " + h + ", false)", x.least(n, h, false), pence);
        due("least(" + n + ", " + h + ", true)", x.least(n, h, true), set);
    }

    private static void leastToPay() {
        edge("29: no more than h is taken", () -> {
            OwedToWinds x = owing("debt 0/10+debt 1/10");
            least(x, 1, 8, 0, 0);
            least(x, 1, 7, 30, 1);
            least(x, 1, 5, 30, 1);
            least(x, 1, 4, 50, 2);
            least(x, 1, 3, 50, 2);
            least(x, 1, 2, 80, 3);
            least(x, 1, 0, 80, 3);
        });
        edge("29: in n DAYS", () -> {
            OwedToWinds x = owing("debt 0/30");
            least(x, 1, 1, 0, 0);
            least(x, 1, 0, 30, 1);
            least(x, 60, 60, 0, 0);
            least(x, 60, 59, 30, 1);
        });
        edge("29: h (0 .. 9999), n (1 .. 60); NONE for others", () -> {
            due("h 9999", owing("99").least(60, 9999, false), 0);
            for (int h : new int[] {-1, LOW, 10000, HIGH}) {
                idle("least(1, " + h + ", false)", NONE, x -> x.least(1, h, false));
                idle("least(1, " + h + ", true)", NONE, x -> x.least(1, h, true));
            }
            for (int n : new int[] {0, -1, 61, HIGH}) {
                idle("least(" + n + ", 9999, false)", NONE, x -> x.least(n, 9999, false));
                idle("least(" + n + ", 9999, true)", NONE, x -> x.least(n, 9999, true));
            }
        });
        edge("29: NONE: none", () -> least(owing("debt 0+1"), 1, 0, NONE, NONE));
        edge("29: nothing need be paid: no pence, no set", () -> {
            least(new OwedToWinds(), 60, 0, 0, 0);
            least(owing("0"), 60, 0, 0, 0);
        });
        edge("29: those above 0: not those OWED less", () -> {
            OwedToWinds x = owing("5-debt 3/20");
            least(x, 1, 8, 0, 0);
            least(x, 1, 7, NONE, NONE);
        });
        edge("29: WINDS that aren't GONE", () -> {
            OwedToWinds x = owing("debt 4");
            least(x, 1, 20, 0, 0);
            least(x, 1, 19, NONE, NONE);
        });
        edge("29: of WINDS that are OWED above 0: 1 penny", () -> {
            OwedToWinds x = under("takes debt 0;blows 1;dues 0;", "wind 0 weight 1 due 1;village 0 purse 9;day 1;");
            least(x, 1, 0, 1, 1);
        });
        edge("29: the fewest pence, though of a higher set", () -> {
            OwedToWinds x = under("takes debt 0*debt 1/100;blows 1;dues 0;", "wind 0 weight 1 due 50;wind 0 weight 1 due 30;village 0 purse 9;day 1;");
            least(x, 1, 0, 30, 2);
        });
        edge("29: of like ones the lowest set", () -> {
            OwedToWinds x = under("takes debt 0*debt 1/100;blows 1;dues 0;", "wind 0 weight 1 due 40;wind 0 weight 1 due 40;village 0 purse 9;day 1;");
            least(x, 1, 0, 40, 1);
            OwedToWinds y = under("takes (debt 0+debt 1)*debt 2/100;blows 1;dues 0;", "wind 0 weight 1 due 10;wind 0 weight 1 due 20;"
                    + "wind 0 weight 1 due 30;village 0 purse 9;day 1;");
            least(y, 1, 0, 30, 3);
        });
        edge("29: all six", () -> {
            OwedToWinds x = under("takes debt 0+debt 1+debt 2+debt 3+debt 4+debt 5;blows 1;dues 0;",
                    times(6, "wind 0 weight 1 due 9;") + "village 0 purse 9;day 1;");
            least(x, 1, 9, 45, 31);
            least(x, 1, 0, 54, 63);
        });
        edge("29: paid at once; by nobody", () -> {
            OwedToWinds x = owing("debt 0/30");
            int purse = x.ofVillage(0, 1);
            x.least(60, 0, false);
            due("purse", x.ofVillage(0, 1), purse);
            OwedToWinds y = under("takes debt 0/30;blows 1;", "wind 0 weight 1 due 30;village 0 purse 0;day 1;");
            least(y, 6, 0, 30, 1);
            least(y, 7, 0, NONE, NONE);
        });
        edge("29: those DAYS that can pass", () -> {
            OwedToWinds x = passed(played("wind 0 weight 1 due 9;village 0 purse 0;"), 9998);
            ruled(x, "takes 7;blows 1;");
            least(x, 60, 7, 0, 0);
            least(x, 60, 6, NONE, NONE);
            x.day(1);
            least(x, 60, 0, 0, 0);
        });
        edge("III: All that follows changes nothing: LEAST TO PAY", () -> {
            quiet("least(60, 9999, true)", x -> x.least(60, 9999, true));
            quiet("least(60, 0, false)", x -> x.least(60, 0, false));
        });
    }

    /** With FORCE 6 these take 5, 3, 0, 6, 4, 2. */
    private static OwedToWinds sixRoofs() {
        return played("wind 0 weight 1 due 0;village 1 purse 0;village 3 purse 0;village 9 purse 0;village 0 purse 0;"
                + "village 2 purse 0;village 4 purse 0;");
    }

    private static void share(OwedToWinds x, int f, int set, int village, int upper, int lower) {
        due("share(0, " + f + ", " + set + ", " + village + ", false)", x.share(0, f, set, village, false), upper);
        due("share(0, " + f + ", " + set + ", " + village + ", true)", x.share(0, f, set, village, true), lower);
    }

    private static void shares() {
        edge("30: FORCE f (1 .. 9)", () -> {
            share(sixRoofs(), 1, 8, 3, 1, 1);
            share(sixRoofs(), 9, 8, 3, 9, 1);
            for (int f : new int[] {0, -1, 10, HIGH}) {
                idle("share(1, " + f + ", 1, 0, false)", NONE, x -> x.share(1, f, 1, 0, false));
                idle("share(1, " + f + ", 1, 0, true)", NONE, x -> x.share(1, f, 1, 0, true));
            }
        });
        edge("30: a set of 1 VILLAGE: all of it", () -> {
            int[] takes = {5, 3, 0, 6, 4, 2};
            for (int village = 0; village < 6; village++) share(sixRoofs(), 6, 1 << village, village, takes[village], 1);
        });
        edge("30: of 2: half of what both would, and what it adds", () -> {
            share(sixRoofs(), 6, 3, 0, 7, 2);
            share(sixRoofs(), 6, 3, 1, 3, 2);
        });
        edge("30: a set of 5 VILLAGES", () -> {
            // 2, 3, 4, 5, 6: the least one's part is 2 by 5, the next one's 1 by 4 more, then 1 by 3, 1 by 2, 1.
            share(sixRoofs(), 6, 59, 5, 2, 5);
            share(sixRoofs(), 6, 59, 1, 13, 20);
            share(sixRoofs(), 6, 59, 4, 59, 60);
            share(sixRoofs(), 6, 59, 0, 89, 60);
            share(sixRoofs(), 6, 59, 3, 149, 60);
        });
        edge("30: a set of 6 is too many", () -> share(sixRoofs(), 6, 63, 0, NONE, NONE));
        edge("30: a set of none", () -> {
            share(sixRoofs(), 6, 0, 0, NONE, NONE);
            idle("share(1, 6, 0, 0, false)", NONE, x -> x.share(1, 6, 0, 0, false));
        });
        edge("30: a VILLAGE of the set", () -> {
            share(sixRoofs(), 6, 2, 0, NONE, NONE);
            share(sixRoofs(), 6, 62, 0, NONE, NONE);
            for (int village : new int[] {-1, 3, 32, HIGH, LOW}) {
                idle("share(1, 6, 1, " + village + ", false)", NONE, x -> x.share(1, 6, 1, village, false));
            }
        });
        edge("30: VILLAGES that are told", () -> {
            for (int set : new int[] {-1, LOW, LOW + 1, 8, 9, 64, 65, HIGH, 1 << 30 | 1}) {
                idle("share(1, 6, " + set + ", 0, false)", NONE, x -> x.share(1, 6, set, 0, false));
            }
            share(sixRoofs(), 6, 65, 0, NONE, NONE);
        });
        edge("30: WINDS that are told", () -> {
            for (int wind : new int[] {-1, 3, HIGH}) idle("share(" + wind + ", 6, 1, 0, true)", NONE, x -> x.share(wind, 6, 1, 0, true));
        });
        edge("30: like ones pay alike", () -> {
            OwedToWinds x = under("takes 7;", "wind 0 weight 1 due 0;" + times(5, "village 0 purse 0;"));
            for (int village = 0; village < 5; village++) share(x, 6, 31, village, 7, 5);
            share(x, 6, 7, 2, 7, 3);
        });
        edge("30: in lowest terms, nothing too", () -> {
            share(sixRoofs(), 6, 7, 2, 0, 1);
            share(sixRoofs(), 6, 6, 1, 3, 1);
            share(sixRoofs(), 1, 3, 0, 0, 1);
            share(sixRoofs(), 6, 40, 5, 1, 1);
        });
        edge("30: by takes of each, 99 at most", () -> {
            OwedToWinds x = under("takes 100-roof;", "wind 0 weight 1 due 0;village 0 purse 0;village 1 purse 0;village 2 purse 0;");
            share(x, 1, 3, 0, 99, 2);
            share(x, 1, 6, 2, 49, 1);
        });
        edge("III: All that follows changes nothing: SHARES", () -> quiet("share(1, 9, 7, 0, true)", x -> x.share(1, 9, 7, 0, true)));
    }

    private static void voyage(OwedToWinds x, int from, int to, int days, int ahead) {
        due("voyage(" + from + ", " + to + ", false)", x.voyage(from, to, false), days);
        due("voyage(" + from + ", " + to + ", true)", x.voyage(from, to, true), ahead);
    }

    private static OwedToWinds sea(int quarter, String laws, String ways) {
        return under(laws, "wind " + quarter + " weight 1 due 0;" + times(4, "village 0 purse 0;") + ways);
    }

    private static void voyages() {
        edge("31: 0: it is there; NONE: it is there", () -> {
            voyage(played("village 0 purse 0;"), 0, 0, 0, NONE);
            voyage(sea(2, "blows 1;", "way 3 to 0 of 1;"), 3, 3, 0, NONE);
        });
        edge("31: 60 at most: in 60", () -> voyage(sea(2, "blows 0;", "way 0 to 1 of 60;"), 0, 1, 60, 0));
        edge("31: 60 at most: in 61", () -> voyage(sea(2, "blows 0;", "way 0 to 1 of 61;"), 0, 1, -2, -2));
        edge("31: 60 at most: by two WAYS", () -> {
            OwedToWinds x = sea(2, "blows 0;", "way 0 to 1 of 30;way 1 to 2 of 30;way 2 to 3 of 1;");
            voyage(x, 0, 2, 60, 1);
            voyage(x, 0, 3, -2, -2);
            voyage(x, 3, 0, -2, -2);
        });
        edge("31: -2: none", () -> {
            OwedToWinds x = sea(2, "blows 9;", "way 0 to 1 of 1;way 2 to 3 of 1;");
            voyage(x, 0, 2, -2, -2);
            voyage(x, 3, 1, -2, -2);
        });
        edge("31: -2 for others", () -> {
            for (int village : new int[] {-1, 3, HIGH, LOW}) {
                idle("voyage(0, " + village + ", false)", -2, x -> x.voyage(0, village, false));
                idle("voyage(" + village + ", 0, false)", -2, x -> x.voyage(village, 0, false));
                idle("voyage(" + village + ", " + village + ", true)", -2, x -> x.voyage(village, village, true));
            }
            due("none told", new OwedToWinds().voyage(0, 0, true), -2);
        });
        edge("31: 1 and that FORCE a DAY (calm: 0)", () -> {
            for (int force = 0; force <= 9; force++) {
                voyage(sea(2, "blows " + force + ";", "way 0 to 1 of " + 2 * (1 + force) + ";"), 0, 1, 2, 0);
                voyage(sea(3, "blows " + force + ";", "way 0 to 1 of " + (2 * (1 + force) + 1) + ";"), 0, 1, 3, 0);
            }
            voyage(played("village 0 purse 0;village 0 purse 0;way 0 to 1 of 7;"), 0, 1, 7, 0);
        });
        edge("31: half of it (cut, 1 at least) if the WIND's QUARTER is less than 2", () -> {
            int[] half = {1, 1, 1, 2, 2, 3, 3, 4, 4, 5};
            for (int force = 0; force <= 9; force++) {
                for (int quarter = 0; quarter <= 1; quarter++) {
                    voyage(sea(quarter, "blows " + force + ";", "way 0 to 1 of " + 2 * half[force] + ";"), 0, 1, 2, 0);
                    voyage(sea(quarter, "blows " + force + ";", "way 0 to 1 of " + (2 * half[force] + 1) + ";"), 0, 1, 3, 0);
                }
            }
        });
        edge("31: each DAY has the WIND as FORETOLD", () -> {
            // Drawn are 1, 1, 1, 1, 0: by force 5 speeds 6, 6, 6, 6, 3.
            OwedToWinds x = under("blows 5;", "wind 0 weight 1 due 0;wind 2 weight 1 due 0;village 0 purse 0;village 0 purse 0;way 0 to 1 of 24;");
            voyage(x, 0, 1, 4, 0);
            x.way(0, 1, 27);
            voyage(x, 0, 1, 5, 0);
            x.way(0, 1, 28);
            voyage(x, 0, 1, 6, 0);
        });
        edge("31: a WAY is done in whole DAYS; the next WAY begins the next DAY", () -> {
            OwedToWinds x = sea(2, "blows 9;", "way 0 to 1 of 1;way 1 to 2 of 1;way 2 to 3 of 11;");
            voyage(x, 0, 1, 1, 0);
            voyage(x, 0, 2, 2, 1);
            voyage(x, 0, 3, 4, 2);
        });
        edge("31: the fewest DAYS", () -> {
            OwedToWinds x = sea(2, "blows 9-day*9;", "way 0 to 3 of 14;way 0 to 1 of 10;way 1 to 3 of 3;");
            // 10 on the first day, then 1 a day: straight on in 5, by the second in 1 + 3.
            voyage(x, 0, 3, 4, 1);
        });
        edge("31: last VILLAGE ahead: of like ones the lowest", () -> {
            OwedToWinds x = sea(2, "blows 0;", "way 3 to 0 of 4;way 3 to 1 of 2;way 1 to 0 of 2;way 3 to 2 of 3;way 2 to 0 of 1;");
            voyage(x, 3, 0, 4, 1);
            x.way(1, 0, 3);
            voyage(x, 3, 0, 4, 2);
            x.way(2, 0, 2);
            voyage(x, 3, 0, 4, 3);
        });
        edge("31: of the soonest at all VILLAGES: one that lies further is none", () -> {
            OwedToWinds x = sea(2, "blows 0;", "way 0 to 3 of 2;way 3 to 1 of 1;way 0 to 1 of 9;");
            voyage(x, 0, 3, 2, 0);
            voyage(x, 0, 1, 3, 3);
        });
        edge("31: by all VILLAGES, from the last to the first", () -> {
            OwedToWinds x = played(times(6, "village 0 purse 0;") + "way 5 to 3 of 1;way 3 to 4 of 1;way 4 to 1 of 1;way 1 to 2 of 1;way 2 to 0 of 1;");
            voyage(x, 5, 0, 5, 2);
            voyage(x, 0, 5, 5, 3);
        });
        edge("31: those DAYS that can pass", () -> {
            OwedToWinds x = passed(new OwedToWinds(), 9990);
            x.village(0, 0);
            x.village(0, 0);
            x.way(0, 1, 9);
            voyage(x, 0, 1, 9, 0);
            x.way(0, 1, 10);
            voyage(x, 0, 1, -2, -2);
            x.day(9);
            x.way(0, 1, 1);
            voyage(x, 0, 1, -2, -2);
            voyage(x, 1, 1, 0, NONE);
        });
        edge("III: All that follows changes nothing: A VOYAGE", () -> {
            quiet("voyage(0, 2, false)", x -> x.voyage(0, 2, false));
            quiet("voyage(0, 2, true)", x -> x.voyage(0, 2, true));
        });
    }

    private static void firstAndLast() {
        edge("III: of six the last, none behind it", () -> {
            OwedToWinds x = full();
            due("owed", x.owed(1, 5), 50);
            due("no seventh is owed", x.owed(1, 6), -1000);
            due("purse, with what it catches", x.purse(1, 5), 503);
            due("no seventh purse", x.purse(1, 6), NONE);
            due("broke", x.broke(0), 0);
            due("no seventh is broke", x.broke(6), NONE);
            odds(x, 5, 0, 2, 7);
            odds(x, 6, 0, NONE, NONE);
            due("share of the last", x.share(5, 9, 32, 5, false), 4);
            due("no seventh wind", x.share(6, 9, 32, 5, false), NONE);
            due("no seventh village", x.share(5, 9, 64, 6, false), NONE);
            x.way(4, 5, 7);
            voyage(x, 5, 4, x.voyage(4, 5, false), 5);
            voyage(x, 6, 5, -2, -2);
            voyage(x, 5, 6, -2, -2);
            voyage(x, 6, 6, -2, -2);
        });
        edge("III: of none told", () -> {
            OwedToWinds x = new OwedToWinds();
            due("foretold", x.foretold(1), 0);
            due("purse", x.purse(1, 0), NONE);
            due("owed", x.owed(1, 0), -1000);
            due("arrears", x.arrears(), NONE);
            due("broke", x.broke(0), NONE);
            due("whose", x.whose(1), NONE);
            odds(x, 0, 1, NONE, NONE);
            least(x, 1, 0, 0, 0);
            due("share", x.share(0, 1, 1, 0, false), NONE);
            voyage(x, 0, 0, -2, -2);
            alike("asked", x, new OwedToWinds());
        });
    }

    public static void main(String[] args) {
        foretold();
        arrears();
        broke();
        whoseLaw();
        odds();
        leastToPay();
        shares();
        voyages();
        firstAndLast();
        end();
    }
}
