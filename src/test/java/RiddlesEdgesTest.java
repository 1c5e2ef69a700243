/**
 * One test for each sentence of part IV that names an edge: what was told of a day, torn sails and kinds, the most
 * of each and none; what fits, the next vane, rows of payments, pieces, calms, the strongest, the richest, the book.
 */
public final class RiddlesEdgesTest extends Checks {
    private static final String TWO = "wind 0 weight 1 due 0;wind 3 weight 1 due 0;village 0 purse 0;village 0 purse 0;";

    // ---- whose wind it was -------------------------------------------------------------------------------
    private static void took() {
        edge("32: TOOK (8 at most): how many there are", () -> {
            OwedToWinds x = played("village 0 purse 0;");
            for (int i = 1; i <= 8; i++) due("took " + i, x.took(0, i), i);
            due("how many", x.about(5), 8);
        });
        edge("32: -2 if there are 8", () -> {
            idle("the ninth", eight(), eight(), -2, x -> x.took(0, 1));
            OwedToWinds x = eight();
            due("none any more", x.took(NONE, 0), 0);
            due("one again", x.took(0, 1), 1);
        });
        edge("32: what was taken (0 .. 99)", () -> {
            OwedToWinds x = played("wind 0 weight 1 due 0;village 9 purse 0;");
            due("0", x.took(0, 0), 1);
            due("0 fits", x.strengths(0), 1022);
            x.took(NONE, 0);
            due("99", x.took(0, 99), 1);
            due("99 doesn't fit", x.strengths(0), 0);
            ruled(x, "takes 99;");
            due("99 fits", x.strengths(0), 1022);
        });
        edge("32: -2 for less than 0, more than 99", () -> {
            for (int what : new int[] {-1, LOW, 100, HIGH}) idle("took(0, " + what + ")", -2, x -> x.took(0, what));
        });
        edge("32: -2 for VILLAGES that aren't told", () -> {
            for (int village : new int[] {3, -2, HIGH, LOW}) idle("took(" + village + ", 0)", -2, x -> x.took(village, 0));
            due("none told", new OwedToWinds().took(0, 0), -2);
        });
        edge("32: village NONE: none any more", () -> {
            OwedToWinds x = busy();
            due("there were", x.about(5), 2);
            due("none", x.took(NONE, 5), 0);
            due("none", x.about(5), 0);
            due("all fit", x.whoseWind(), 7);
            due("none, as there were", x.took(NONE, 0), 0);
        });
        edge("33: WINDS (bits) by which, blowing with some FORCE 1 .. 9, all TOOK is so", () -> {
            int[][] pairs = {{0, 0}, {1, 3}, {5, 3}, {9, 3}, {10, 0}};
            for (int[] pair : pairs) {
                OwedToWinds x = under("takes force;", TWO);
                x.took(0, pair[0]);
                due("took " + pair[0], x.whoseWind(), pair[1]);
            }
        });
        edge("33: all TOOK by one FORCE", () -> {
            OwedToWinds x = under("takes force+roof;", "wind 0 weight 1 due 0;village 0 purse 0;village 1 purse 0;");
            x.took(0, 4);
            x.took(1, 5);
            due("4 and 5", x.whoseWind(), 1);
            x.took(1, 6);
            due("and 6", x.whoseWind(), 0);
        });
        edge("33: without TOOK all; of no winds none", () -> {
            due("two", played(TWO).whoseWind(), 3);
            due("six", played(times(6, "wind 0 weight 1 due 0;")).whoseWind(), 63);
            due("none", new OwedToWinds().whoseWind(), 0);
            due("no wind, one TOOK", told(played("village 0 purse 0;"), 0, 0).whoseWind(), 0);
        });
        edge("33: GONE ones too", () -> {
            OwedToWinds x = under("takes quarter*10+force;", TWO + "merge 1 to 0;");
            x.took(0, 35);
            due("the gone one", x.whoseWind(), 2);
            due("its strength", x.strengths(1), 32);
        });
        edge("33: the eighth TOOK counts", () -> {
            OwedToWinds x = under("takes force;", TWO);
            for (int i = 0; i < 7; i++) x.took(0, 4);
            due("seven", x.strengths(0), 16);
            x.took(0, 5);
            due("eight", x.strengths(0), 0);
        });
        edge("33: all else as now", () -> {
            OwedToWinds x = under("takes force+day;", TWO);
            x.took(0, 9);
            due("on day 0 of force 9", x.strengths(0), 512);
            x.day(8);
            due("on day 8 of force 1", x.strengths(0), 2);
            x.day(1);
            due("on day 9 of none", x.strengths(0), 0);
        });
        edge("34: by which FORCES (bits 1 .. 9)", () -> {
            for (int force = 1; force <= 9; force++) {
                due("took " + force, told(under("takes force;", TWO), 0, force).strengths(1), 1 << force);
            }
            due("without TOOK", played(TWO).strengths(1), 1022);
            due("of a roof of 4: 0 by 1 .. 4", told(played("wind 0 weight 1 due 0;village 4 purse 0;"), 0, 0).strengths(0), 30);
            due("none", told(under("takes force;", TWO), 0, 10).strengths(1), 0);
        });
        edge("34: NONE for others", () -> {
            for (int wind : new int[] {-1, 3, HIGH}) idle("strengths(" + wind + ")", NONE, x -> x.strengths(wind));
            due("none told", new OwedToWinds().strengths(0), NONE);
        });
        edge("III: All that follows changes nothing: WHOSE WIND, STRENGTHS", () -> {
            quiet("whoseWind", x -> x.whoseWind());
            quiet("strengths(2)", x -> x.strengths(2));
        });
    }

    private static OwedToWinds eight() {
        OwedToWinds x = played("wind 0 weight 1 due 0;village 0 purse 0;");
        for (int i = 0; i < 8; i++) x.took(0, 3);
        return x;
    }

    private static OwedToWinds told(OwedToWinds x, int village, int what) {
        x.took(village, what);
        return x;
    }

    private static void vane() {
        edge("35: NONE: no such VILLAGE", () -> {
            due("none told", new OwedToWinds().vane(), NONE);
            due("winds alone", played("wind 0 weight 1 due 0;").vane(), NONE);
            OwedToWinds x = told(told(under("takes force;", TWO), 0, 3), 1, 3);
            due("something fits", x.whoseWind(), 3);
            due("of each a TOOK is", x.vane(), NONE);
        });
        edge("35: NONE: nothing fits", () -> {
            due("no wind", played("village 0 purse 0;").vane(), NONE);
            due("none fits", told(under("takes force;", TWO), 0, 10).vane(), NONE);
        });
        edge("35: of VILLAGES that no TOOK is of", () -> {
            OwedToWinds x = under("takes force*(1-roof);", "wind 0 weight 1 due 0;village 0 purse 0;village 1 purse 0;");
            due("nine answers or one", x.vane(), 0);
            ruled(x, "takes force/9*(1-roof);");
            x.took(0, 0);
            due("the other one", x.vane(), 1);
        });
        edge("35: by whose takes most unlike answers come", () -> {
            OwedToWinds x = played("wind 0 weight 1 due 0;village 8 purse 0;village 7 purse 0;village 6 purse 0;village 7 purse 0;");
            due("two, three, four, three", x.vane(), 2);
        });
        edge("35: of like ones the lowest", () -> {
            due("nine each", under("takes force;", TWO).vane(), 0);
            due("one each: 0", played("wind 0 weight 1 due 0;village 9 purse 0;village 9 purse 0;").vane(), 0);
            OwedToWinds x = played("wind 0 weight 1 due 0;village 8 purse 0;village 7 purse 0;village 7 purse 0;");
            due("two, three, three", x.vane(), 1);
        });
        edge("35: of all pairs (WIND, FORCE) that fit", () -> {
            // Of 3 by roof 0 the force is 3; the second village tells the winds apart, the third doesn't.
            OwedToWinds x = under("takes force*(1-roof/5)+quarter*(roof/5)*(6-roof);", "wind 0 weight 1 due 0;wind 3 weight 1 due 0;"
                    + "village 0 purse 0;village 6 purse 0;village 5 purse 0;village 0 purse 0;");
            due("nine of the first", x.vane(), 0);
            x.took(0, 3);
            due("two of the third", x.vane(), 2);
        });
        edge("35: like answers of two pairs are one", () -> {
            // By each force the winds answer alike of the first (9 answers), not so of the second (10 answers).
            OwedToWinds x = under("takes force+roof*(quarter/3);", "wind 0 weight 1 due 0;wind 3 weight 1 due 0;village 0 purse 0;village 1 purse 0;");
            due("vane", x.vane(), 1);
        });
        edge("35: pairs of GONE ones too", () -> {
            OwedToWinds x = under("takes force+roof*quarter*10;", "wind 0 weight 1 due 0;wind 3 weight 1 due 0;village 0 purse 0;village 1 purse 0;merge 1 to 0;");
            due("vane", x.vane(), 1);
        });
        edge("35: answers of 0 and 99 are answers", () -> {
            OwedToWinds x = under("takes roof*99*(force/9);", "wind 0 weight 1 due 0;village 0 purse 0;village 1 purse 0;");
            due("0 and 99", x.vane(), 1);
        });
        edge("35: FORCE 1 and FORCE 9 are such", () -> {
            String deeds = "wind 0 weight 1 due 0;village 0 purse 0;village 1 purse 0;";
            due("1 by force 1, else 0", under("takes roof*(1/force);", deeds).vane(), 1);
            due("1 by force 9, else 0", under("takes roof*(force/9);", deeds).vane(), 1);
        });
        edge("35: of six WINDS", () -> {
            OwedToWinds x = under("takes roof*(weight/9)*force;", times(5, "wind 0 weight 1 due 0;") + "wind 0 weight 9 due 0;"
                    + "village 0 purse 0;village 1 purse 0;");
            due("the sixth tells them apart", x.vane(), 1);
        });
        edge("35: of no WINDS that aren't told any more", () -> {
            OwedToWinds x = new OwedToWinds();
            x.wind(0, 1, 0);
            x.village(0, 0);
            x.village(1, 0);
            ruled(x, "takes force+roof*quarter*10;");
            x.image();
            x.wind(3, 1, 0);
            due("two winds", x.vane(), 1);
            x.back();
            due("one wind", x.vane(), 0);
        });
        edge("35: the first of none told, the last of six", () -> {
            OwedToWinds x = played("wind 0 weight 1 due 0;" + times(5, "village 9 purse 0;") + "village 8 purse 0;");
            due("two by the last", x.vane(), 5);
            x.took(5, 1);
            due("one by each", x.vane(), 0);
            for (int i = 0; i < 4; i++) x.took(i, 0);
            due("the fifth", x.vane(), 4);
        });
        edge("III: All that follows changes nothing: NEXT VANE", () -> quiet("vane", x -> x.vane()));
    }

    // ---- torn sails --------------------------------------------------------------------------------------
    private static OwedToWinds torn(String blows, int... forces) {
        OwedToWinds x = under(blows, "wind 2 weight 1 due 0;wind 3 weight 1 due 20;");
        for (int force : forces) x.sail(force);
        return x;
    }

    private static void sails() {
        edge("36: FORCES 0 .. 9: how many there are", () -> {
            OwedToWinds x = new OwedToWinds();
            due("0", x.sail(0), 1);
            due("9", x.sail(9), 2);
            due("how many", x.about(6), 2);
        });
        edge("36: -2 for others", () -> {
            for (int force : new int[] {-2, LOW, 10, HIGH}) idle("sail(" + force + ")", -2, x -> x.sail(force));
        });
        edge("36: TORN SAILS (5 at most)", () -> {
            OwedToWinds x = new OwedToWinds();
            for (int i = 1; i <= 5; i++) due("sail " + i, x.sail(i), i);
            due("the sixth", x.sail(1), -2);
            due("how many", x.about(6), 5);
            idle("the sixth", torn("blows 1;", 1, 1, 1, 1, 1), torn("blows 1;", 1, 1, 1, 1, 1), -2, y -> y.sail(1));
        });
        edge("36: force NONE: none any more", () -> {
            OwedToWinds x = torn("blows 1;", 1, 1, 1, 1, 1);
            due("none", x.sail(NONE), 0);
            due("none", x.about(6), 0);
            due("without", x.sails(0, 0), NONE);
            due("one", x.sail(1), 1);
            due("one day, one row", x.sails(0, 0), 1);
            due("none, as there were", new OwedToWinds().sail(NONE), 0);
        });
        edge("37: NONE without FORCES", () -> {
            due("sails", torn("blows 1;").sails(0, 0), NONE);
            due("sure", torn("blows 1;").sure(0, 0, 0), NONE);
        });
        edge("37: 4 to the number of DAYS less one", () -> {
            int[] rows = {1, 4, 16, 64, 256};
            OwedToWinds x = torn("blows 7;");
            for (int i = 0; i < 5; i++) {
                x.sail(7);
                due((i + 1) + " days", x.sails(0, 0), rows[i]);
            }
        });
        edge("37: in how many rows FORCES are so: none", () -> {
            due("not the first", torn("blows 7;", 8).sails(0, 0), 0);
            due("not the last", torn("blows 7;", 7, 7, 7, 7, 8).sails(0, 0), 0);
        });
        edge("37: OWED o (0 .. 999) ahead of the first", () -> {
            due("0", torn("blows owed;", 0).sails(0, 0), 1);
            due("1", torn("blows owed;", 1).sails(0, 1), 1);
            due("999", torn("blows owed-990;", 9).sails(0, 999), 1);
            due("998", torn("blows owed-990;", 8).sails(0, 998), 1);
            for (int o : new int[] {-1, LOW, 1000, HIGH}) {
                idle("sails(1, " + o + ")", NONE, x -> x.sails(1, o));
                idle("sure(1, " + o + ", 0)", NONE, x -> x.sure(1, o, 0));
            }
        });
        edge("37: NONE for others", () -> {
            for (int wind : new int[] {-1, 3, HIGH}) {
                idle("sails(" + wind + ", 9)", NONE, x -> x.sails(wind, 9));
                idle("sure(" + wind + ", 9, 0)", NONE, x -> x.sure(wind, 9, 0));
            }
            OwedToWinds x = new OwedToWinds();
            x.sail(0);
            due("none told", x.sails(0, 0), NONE);
        });
        edge("37: being paid 0, 10, 20 or 30 behind each DAY", () -> {
            for (int paid = 0; paid <= 50; paid += 10) {
                OwedToWinds x = torn("blows owed/10;", 9, 9 - paid / 10);
                due(paid + " less", x.sails(0, 99), paid <= 30 ? 1 : 0);
                due("sure", x.sure(0, 99, 0), paid <= 30 ? paid : NONE);
            }
        });
        edge("37: OWED may be below 0 then", () -> {
            due("0 less 10, 20, 30", torn("blows 0-owed/10;", 0, 3).sure(0, 0, 0), 30);
            due("0 less 120", torn("blows 0-owed/10-3;", 0, 0, 3, 6, 9).sails(0, 0), 1);
        });
        edge("37: FORCE on the first as now, then that of the DAY ahead", () -> {
            // Drawn is 1, of force 2.
            OwedToWinds x = played("wind 2 weight 1 due 0;wind 3 weight 1 due 20;day 1;");
            due("force", x.ofWind(1, 4), 2);
            ruled(x, "blows force*2+1;");
            x.sail(5);
            due("2 * 2 + 1", x.sails(1, 0), 1);
            due("0 * 2 + 1", x.sails(0, 0), 0);
            x.sail(9);
            due("5 * 2 + 1, 9 at most", x.sails(1, 0), 4);
            x.sail(NONE);
            x.sail(1);
            x.sail(3);
            x.sail(7);
            due("1, 3, 7", x.sails(0, 0), 16);
        });
        edge("37: debt of it is what it is OWED then", () -> {
            OwedToWinds x = torn("blows debt 0/10;", 5, 4);
            due("50, 40", x.sails(0, 50), 1);
            due("of another one as now", torn("blows debt 0/10;", 0, 0).sails(1, 50), 4);
        });
        edge("37: all else as now, DAY too", () -> {
            OwedToWinds x = played("wind 2 weight 1 due 0;day 6;");
            ruled(x, "blows day;dues 99;");
            x.sail(6);
            x.sail(6);
            due("day 6 on both", x.sails(0, 0), 4);
        });
        edge("37: blows alone counts, not comes", () -> due("sails", torn("comes 1<0;blows 7;", 7).sails(0, 0), 1));
        edge("37: of a GONE one too", () -> {
            OwedToWinds x = torn("blows owed;", 7);
            x.merge(0, 1);
            due("sails", x.sails(0, 7), 1);
        });
    }

    private static void sure() {
        edge("38: it, if it is alike in all of these", () -> {
            OwedToWinds x = torn("blows owed/10;", 9, 8, 8, 5, 4);
            due("rows", x.sails(0, 90), 1);
            int[] paid = {10, 0, 30, 10};
            for (int i = 0; i < 4; i++) due("payment " + i, x.sure(0, 90, i), paid[i]);
        });
        edge("38: else NONE", () -> {
            OwedToWinds x = torn("blows owed/20;", 4, 3);
            due("10 or 20 of 80", x.sure(0, 80, 0), NONE);
            due("rows", x.sails(0, 80), 2);
        });
        edge("38: (also without any)", () -> {
            due("no row", torn("blows owed/10;", 9, 4).sure(0, 90, 0), NONE);
            due("no row", torn("blows owed/10;", 8, 8).sure(0, 90, 0), NONE);
        });
        edge("38: the i-th payment: NONE for others", () -> {
            OwedToWinds x = torn("blows owed/10;", 9, 8);
            due("the first", x.sure(0, 90, 0), 10);
            for (int i : new int[] {1, -1, 2, 4, HIGH, LOW}) due("payment " + i, x.sure(0, 90, i), NONE);
            due("of one day there is none", torn("blows 7;", 7).sure(0, 0, 0), NONE);
            OwedToWinds y = torn("blows owed/10;", 9, 9, 9, 9, 6);
            due("the fourth of five days", y.sure(0, 90, 3), 30);
            due("no fifth", y.sure(0, 90, 4), NONE);
        });
        edge("38: OWED o (0 .. 999)", () -> {
            due("0", torn("blows owed+9;", 9, 9).sure(0, 0, 0), 0);
            due("-1", torn("blows owed+9;", 8, 8).sure(0, -1, 0), NONE);
            due("999", torn("blows owed-990;", 9, 9).sure(0, 999, 0), 0);
            due("1000", torn("blows owed-991;", 9, 9).sure(0, 1000, 0), NONE);
        });
        edge("38: NONE for others", () -> {
            for (int i : new int[] {-1, 1, HIGH}) idle("sure(1, 30, " + i + ")", NONE, x -> x.sure(1, 30, i));
        });
        edge("III: All that follows changes nothing: TORN SAILS", () -> {
            quiet("sails(2, 30)", x -> x.sails(2, 30));
            quiet("sure(2, 30, 0)", x -> x.sure(2, 30, 0));
        });
    }

    // ---- payments in kind --------------------------------------------------------------------------------
    private static OwedToWinds kinds(int... worths) {
        OwedToWinds x = new OwedToWinds();
        for (int worth : worths) x.kind(worth);
        return x;
    }

    private static void kinds() {
        edge("39: worth 1 .. 99 each: how many there are", () -> {
            OwedToWinds x = new OwedToWinds();
            due("1", x.kind(1), 1);
            due("99", x.kind(99), 2);
            due("how many", x.about(7), 2);
        });
        edge("39: -2 for others", () -> {
            for (int worth : new int[] {0, -2, LOW, 100, HIGH}) idle("kind(" + worth + ")", -2, x -> x.kind(worth));
        });
        edge("39: KINDS (5 at most)", () -> {
            OwedToWinds x = kinds(1, 2, 3, 4);
            due("the fifth", x.kind(5), 5);
            due("the sixth", x.kind(6), -2);
            due("how many", x.about(7), 5);
            idle("the sixth", kinds(1, 2, 3, 4, 5), kinds(1, 2, 3, 4, 5), -2, y -> y.kind(6));
        });
        edge("39: worth NONE: none any more", () -> {
            OwedToWinds x = kinds(1, 2, 3, 4, 5);
            due("none", x.kind(NONE), 0);
            due("none", x.about(7), 0);
            due("without", x.inKind(1, NONE), NONE);
            due("one", x.kind(7), 1);
            due("7", x.inKind(7, NONE), 1);
            due("none, as there were", new OwedToWinds().kind(NONE), 0);
        });
        edge("40: worth n (0 .. 999)", () -> {
            OwedToWinds x = kinds(3, 1);
            due("0", x.inKind(0, NONE), 0);
            due("0 of the first", x.inKind(0, 0), 0);
            due("1", x.inKind(1, NONE), 1);
            due("998", x.inKind(998, NONE), 334);
            due("999", x.inKind(999, NONE), 333);
            due("999 of the first", x.inKind(999, 0), 333);
            for (int n : new int[] {-1, LOW, 1000, HIGH}) {
                idle("inKind(" + n + ", NONE)", NONE, y -> y.inKind(n, NONE));
                idle("inKind(" + n + ", 0)", NONE, y -> y.inKind(n, 0));
            }
        });
        edge("40: NONE for KINDS that aren't told", () -> {
            for (int kind : new int[] {2, -2, 5, HIGH, LOW}) idle("inKind(5, " + kind + ")", NONE, x -> x.inKind(5, kind));
            due("none told", new OwedToWinds().inKind(0, 0), NONE);
            due("the fifth", kinds(1, 2, 3, 4, 5).inKind(5, 4), 1);
            due("no sixth", kinds(1, 2, 3, 4, 5).inKind(5, 5), NONE);
        });
        edge("40: NONE: none", () -> {
            due("1 of 2s", kinds(2).inKind(1, NONE), NONE);
            due("1 of 2s", kinds(2).inKind(1, 0), NONE);
            due("999 of 2s and 4s", kinds(2, 4).inKind(999, NONE), NONE);
            due("no kinds", new OwedToWinds().inKind(1, NONE), NONE);
            due("98 of 99s", kinds(99).inKind(98, NONE), NONE);
        });
        edge("40: nothing of no kinds", () -> due("0", new OwedToWinds().inKind(0, NONE), 0));
        edge("40: the fewest pieces, any number of each", () -> {
            due("6 of 4, 3, 1", kinds(4, 3, 1).inKind(6, NONE), 2);
            due("990 of 99", kinds(1, 99).inKind(990, NONE), 10);
            due("989", kinds(1, 99).inKind(989, NONE), 9 + 98);
            due("999 of 1", kinds(1).inKind(999, NONE), 999);
        });
        edge("40: of like ones most of the first KIND, then of the second, ..", () -> {
            OwedToWinds x = kinds(4, 5, 3);
            due("8: 4 + 4, not 5 + 3", x.inKind(8, 0), 2);
            due("none of the second", x.inKind(8, 1), 0);
            OwedToWinds y = kinds(5, 4, 3);
            due("8: 5 + 3, not 4 + 4", y.inKind(8, 0), 1);
            due("none of the second", y.inKind(8, 1), 0);
            due("one of the third", y.inKind(8, 2), 1);
            OwedToWinds z = kinds(1, 6, 5, 7);
            due("12: 5 + 7 or 6 + 6: most of the second", z.inKind(12, 1), 2);
            due("none of the third", z.inKind(12, 2), 0);
            OwedToWinds w = kinds(1, 5, 6, 7);
            due("12: 5 + 7", w.inKind(12, 1), 1);
            due("none of the third", w.inKind(12, 2), 0);
            due("one of the fourth", w.inKind(12, 3), 1);
        });
        edge("40: of two KINDS worth as much the first", () -> {
            due("the first", kinds(7, 7).inKind(21, 0), 3);
            due("the second", kinds(7, 7).inKind(21, 1), 0);
        });
        edge("III: All that follows changes nothing: IN KIND", () -> {
            quiet("inKind(999, NONE)", x -> x.inKind(999, NONE));
            quiet("inKind(999, 1)", x -> x.inKind(999, 1));
        });
    }

    // ---- calms, the strongest, the richest, the book -------------------------------------------------------
    private static OwedToWinds calmIf(String either) {
        return under("comes not " + either + ";blows 1;", "wind 0 weight 1 due 0;");
    }

    private static void calms(OwedToWinds x, int n, int all, int row) {
        due("calms(" + n + ", false)", x.calms(n, false), all);
        due("calms(" + n + ", true)", x.calms(n, true), row);
    }

    private static void calms() {
        edge("41: of the next n DAYS (1 .. 60)", () -> {
            calms(new OwedToWinds(), 1, 1, 1);
            calms(new OwedToWinds(), 60, 60, 60);
            calms(calmIf("day=0"), 1, 1, 1);
            calms(calmIf("day=1"), 1, 0, 0);
            calms(calmIf("day=59"), 59, 0, 0);
            calms(calmIf("day=59"), 60, 1, 1);
            calms(calmIf("day=60"), 60, 0, 0);
        });
        edge("41: NONE for others", () -> {
            for (int n : new int[] {0, -1, 61, HIGH}) {
                idle("calms(" + n + ", false)", NONE, x -> x.calms(n, false));
                idle("calms(" + n + ", true)", NONE, x -> x.calms(n, true));
            }
        });
        edge("41: the longest row at first, between, at last", () -> {
            calms(under("comes day>2 and day#5;blows 1;", "wind 0 weight 1 due 0;"), 9, 4, 3);
            calms(under("comes day#1 and day#4 and day#5 and day#7;blows 1;", "wind 0 weight 1 due 0;"), 9, 4, 2);
            calms(under("comes day#1 and day<6;blows 1;", "wind 0 weight 1 due 0;"), 9, 4, 3);
        });
        edge("41: none are", () -> calms(under("blows 1;", "wind 0 weight 1 due 0;"), 60, 0, 0));
        edge("41: those DAYS that can pass", () -> {
            OwedToWinds x = passed(new OwedToWinds(), 9997);
            calms(x, 60, 2, 2);
            x.day(2);
            calms(x, 60, 0, 0);
        });
        edge("III: All that follows changes nothing: CALMS", () -> quiet("calms(60, true)", x -> x.calms(60, true)));
    }

    private static void strongest() {
        edge("42: NONE: none", () -> {
            due("none told", new OwedToWinds().strongest(), NONE);
            due("villages alone", played("village 0 purse 0;").strongest(), NONE);
        });
        edge("42: of like ones the lowest", () -> {
            due("of 0 each", played(TWO).strongest(), 0);
            due("of 5 each", under("blows 5;", TWO).strongest(), 0);
            due("of 1, 2, 2", under("blows quarter;", "wind 1 weight 1 due 0;wind 2 weight 1 due 0;wind 2 weight 1 due 0;").strongest(), 1);
        });
        edge("42: of the greatest FORCE: the last of six", () ->
            due("strongest", under("blows weight;", times(5, "wind 0 weight 1 due 0;") + "wind 0 weight 2 due 0;").strongest(), 5));
        edge("42: 9 at most", () -> due("9 and 9", under("blows 9+quarter;", TWO).strongest(), 0));
        edge("42: that isn't GONE", () -> {
            OwedToWinds x = under("blows 5-quarter;", TWO + "merge 0 to 1;");
            due("the gone one would be stronger", x.strongest(), 1);
            due("of 0 each", played(TWO + "merge 0 to 1;").strongest(), 1);
        });
        edge("42: 0 if it doesn't come", () -> {
            due("the first doesn't", under("comes quarter>0;blows 5-quarter;", TWO).strongest(), 1);
            due("neither does", under("comes quarter>5;blows quarter;", TWO).strongest(), 0);
            due("the first blows 0, the second doesn't come", under("comes quarter<1;blows quarter;", TWO).strongest(), 0);
            due("the first doesn't come, the second blows 1", under("comes quarter>0;blows 1;", TWO).strongest(), 1);
        });
        edge("42: blows as now: not by what is due today", () -> {
            OwedToWinds x = played("wind 0 weight 1 due 10;wind 0 weight 1 due 90;");
            due("neither is owed yet", x.strongest(), 0);
            x.day(1);
            due("owed 10 and 90", x.strongest(), 1);
        });
        edge("III: All that follows changes nothing: STRONGEST", () -> quiet("strongest", x -> x.strongest()));
    }

    private static void richest() {
        edge("43: NONE: none", () -> {
            due("none told", new OwedToWinds().richest(), NONE);
            due("winds alone", played("wind 0 weight 1 due 0;").richest(), NONE);
        });
        edge("43: of PURSE 0", () -> due("richest", played("village 0 purse 0;village 9 purse 0;").richest(), 0));
        edge("43: of like ones the lowest", () -> {
            due("9, 9", played("village 0 purse 9;village 9 purse 9;").richest(), 0);
            due("8, 9, 9", played("village 0 purse 8;village 9 purse 9;village 9 purse 9;").richest(), 1);
        });
        edge("43: of most PURSE: the last of six", () ->
            due("richest", played(times(5, "village 0 purse 9998;") + "village 0 purse 9999;").richest(), 5));
        edge("III: All that follows changes nothing: RICHEST", () -> quiet("richest", x -> x.richest()));
    }

    private static void byTheBook() {
        edge("44: how often a WIND (NONE: calm) is in it", () -> {
            OwedToWinds x = under("blows day;", "wind 0 weight 1 due 0;wind 0 weight 1 due 0;");
            due("none yet", x.often(0), 0);
            due("none yet", x.often(NONE), 0);
            x.day(6);
            due("the first", x.often(0), 2);
            due("the second", x.often(1), 3);
            due("calm", x.often(NONE), 1);
        });
        edge("44: -2 for others", () -> {
            for (int wind : new int[] {3, -2, HIGH, LOW}) idle("often(" + wind + ")", -2, x -> x.often(wind));
            due("none told", new OwedToWinds().often(0), -2);
            due("NONE of none", new OwedToWinds().often(NONE), 0);
        });
        edge("44: of the latest 30 DAYS", () -> {
            OwedToWinds x = under("comes day#0 and day#30;blows 1;", "wind 0 weight 1 due 0;");
            x.day(30);
            due("calm", x.often(NONE), 1);
            due("wind", x.often(0), 29);
            x.day(1);
            due("calm on day 30, day 0 isn't in it", x.often(NONE), 1);
            x.day(1);
            due("calm", x.often(NONE), 1);
            due("wind", x.often(0), 29);
            x.day(29);
            due("no calm any more", x.often(NONE), 0);
            due("wind", x.often(0), 30);
        });
        edge("44: of a GONE one", () -> {
            OwedToWinds x = under("blows 1;", TWO);
            x.day(4);
            x.merge(1, 0);
            due("four days", x.often(1), 4);
        });
        edge("45: NONE: none", () -> due("worstDay", new OwedToWinds().worstDay(), NONE));
        edge("45: of like ones the earliest", () -> {
            OwedToWinds x = under("blows 1;takes 5;", "wind 0 weight 1 due 0;village 0 purse 0;");
            x.day(3);
            due("5 each", x.worstDay(), 0);
            OwedToWinds y = under("blows 1;takes day;", "wind 0 weight 1 due 0;village 0 purse 0;");
            y.day(4);
            due("0, 1, 2, 3", y.worstDay(), 3);
            ruled(y, "blows 1;takes 3;");
            y.day(3);
            due("3, 3, 3, 3", y.worstDay(), 3);
        });
        edge("45: nothing was taken on any: the earliest", () -> {
            OwedToWinds x = passed(new OwedToWinds(), 2);
            due("worstDay", x.worstDay(), 0);
        });
        edge("45: of the latest 30 DAYS", () -> {
            OwedToWinds x = under("blows 1;takes 50-day;", "wind 0 weight 1 due 0;village 0 purse 0;");
            x.day(30);
            due("30 of them", x.worstDay(), 0);
            x.day(1);
            due("the 31st", x.worstDay(), 1);
        });
        edge("45: what is taken from all", () -> {
            OwedToWinds x = under("blows 1;takes 9+roof*day*10;", "wind 0 weight 1 due 0;village 0 purse 0;village 1 purse 0;");
            x.day(3);
            due("18, 28, 38", x.worstDay(), 2);
        });
        edge("III: All that follows changes nothing: BY THE BOOK", () -> {
            quiet("often(1)", x -> x.often(1));
            quiet("worstDay", x -> x.worstDay());
        });
    }

    private static void firstAndLast() {
        edge("IV: of six the last, none behind it", () -> {
            OwedToWinds x = ruled(full(), "blows weight;takes weight+roof;");
            due("took of the last", x.took(5, 11), 1);
            due("no seventh", x.took(6, 11), -2);
            due("the sixth wind", x.whoseWind(), 32);
            due("its strengths", x.strengths(5), 1022);
            due("no seventh", x.strengths(6), NONE);
            due("vane", x.vane(), 0);
            x.sail(6);
            x.sail(6);
            due("sails", x.sails(5, 0), 4);
            due("no seventh", x.sails(6, 0), NONE);
            due("sure", x.sure(5, 0, 0), NONE);
            due("no seventh", x.sure(6, 0, 0), NONE);
            due("strongest", x.strongest(), 5);
            due("richest", x.richest(), 5);
            x.day(30);
            yes("the last is in the book", x.often(5) > 0);
            due("no seventh", x.often(6), -2);
        });
        edge("IV: of none told", () -> {
            OwedToWinds x = new OwedToWinds();
            due("took", x.took(0, 0), -2);
            due("whoseWind", x.whoseWind(), 0);
            due("strengths", x.strengths(0), NONE);
            due("vane", x.vane(), NONE);
            due("sails", x.sails(0, 0), NONE);
            due("sure", x.sure(0, 0, 0), NONE);
            due("inKind", x.inKind(0, NONE), 0);
            due("inKind", x.inKind(1, NONE), NONE);
            due("inKind", x.inKind(0, 0), NONE);
            due("calms", x.calms(1, false), 1);
            due("strongest", x.strongest(), NONE);
            due("richest", x.richest(), NONE);
            due("often", x.often(NONE), 0);
            due("often", x.often(0), -2);
            due("worstDay", x.worstDay(), NONE);
            alike("asked", x, new OwedToWinds());
        });
    }

    public static void main(String[] args) {
        took();
        vane();
        sails();
        sure();
        kinds();
        calms();
        strongest();
        richest();
        byTheBook();
        firstAndLast();
        end();
    }
}
