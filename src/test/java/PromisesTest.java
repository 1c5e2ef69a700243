/**
 * For each promise: ordinary calls, the edges that the document names, wrong calls.
 * What is due is reckoned by hand. The draws of a new object are 127, 14637, 24931, 7473, 21480, 6350,
 * 20612, 4216, 27985, ..
 */
public final class PromisesTest extends Checks {
    /** Winds and villages of whom a law can say something. */
    private static OwedToWinds lawful() {
        OwedToWinds x = played("wind 3 weight 7 due 20;wind 1 weight 2 due 9;village 2 purse 8;pay 0 to 1 of 4;");
        x.village(6, 77);
        return x;
    }

    /** The value of a sum, of both signs, as a wind's dues and those of the sum's opposite tell it. */
    private static void sum(String sum, int want) {
        due("dues " + sum, ruled(lawful(), "dues " + sum + ";").ofWind(0, 8), Math.max(0, Math.min(99, want)));
        due("dues -(" + sum + ")", ruled(lawful(), "dues -(" + sum + ");").ofWind(0, 8), Math.max(0, Math.min(99, -want)));
    }

    private static void ask(String either, int want) {
        due("comes " + either, ruled(lawful(), "comes " + either + ";").ofWind(0, 7), want);
    }

    // ---- the promises ------------------------------------------------------------------------------------
    private static void p1() {
        OwedToWinds x = new OwedToWinds();
        due("NONE", NONE, -1);
        for (int what = 0; what <= 8; what++) due("about " + what, x.about(what), what == 3 ? NONE : 0);
        due("day", x.is(0), 0);
        due("x", x.is(1), 127);
        due("undo", x.undo(), NONE);
        x.wind(1, 2, 3);
        x.village(4, 5);
        x.day(2);
        ruled(x, "dues 7;");
        due("back to the new one", x.back(), 0);
        for (int what = 0; what <= 8; what++) due("about " + what, x.about(what), what == 3 ? NONE : 0);
        due("x", x.is(1), 127);
        due("book", x.book(NONE, 0), 0);
    }

    private static void p2() {
        OwedToWinds x = new OwedToWinds();
        due("quarter -1", x.wind(-1, 1, 0), NONE);
        due("quarter 4", x.wind(4, 1, 0), NONE);
        due("weight 0", x.wind(0, 0, 0), NONE);
        due("weight 10", x.wind(0, 10, 0), NONE);
        due("due -1", x.wind(0, 1, -1), NONE);
        due("due 100", x.wind(0, 1, 100), NONE);
        due("far off", x.wind(HIGH, LOW, HIGH), NONE);
        due("none told", x.about(0), 0);
        due("wind", x.wind(0, 1, 0), 0);
        due("wind", x.wind(3, 9, 99), 1);
        int[] first = {0, 1, 0, 0, 0, 0};
        int[] second = {3, 9, 99, 0, 0, 0};
        for (int what = 0; what < 6; what++) {
            due("first " + what, x.ofWind(0, what), first[what]);
            due("second " + what, x.ofWind(1, what), second[what]);
        }
        for (int i = 2; i < 6; i++) due("wind " + i, x.wind(2, 5, 50), i);
        due("the seventh", x.wind(2, 5, 50), NONE);
        due("winds", x.about(0), 6);
    }

    private static void p3() {
        OwedToWinds x = new OwedToWinds();
        due("roof -1", x.village(-1, 0), NONE);
        due("roof 10", x.village(10, 0), NONE);
        due("purse -1", x.village(0, -1), NONE);
        due("purse 10000", x.village(0, 10000), NONE);
        due("village", x.village(0, 9999), 0);
        due("village", x.village(9, 0), 1);
        due("roof", x.ofVillage(1, 0), 9);
        due("purse", x.ofVillage(0, 1), 9999);
        due("taken", x.ofVillage(0, 2), 0);
        for (int i = 2; i < 6; i++) due("village " + i, x.village(1, 1), i);
        due("the seventh", x.village(1, 1), NONE);
        due("villages", x.about(1), 6);
    }

    private static void p4() {
        OwedToWinds x = played("village 0 purse 1;village 0 purse 1;");
        no("no third", x.way(0, 2, 5));
        no("no third", x.way(2, 0, 5));
        no("none below", x.way(-1, 0, 5));
        no("like ones", x.way(1, 1, 5));
        no("length -1", x.way(0, 1, -1));
        no("length 100", x.way(0, 1, 100));
        due("none yet", x.voyage(0, 1, false), -2);
        yes("way", x.way(1, 0, 60));
        due("both ways alike", x.voyage(0, 1, false), 60);
        due("both ways alike", x.voyage(1, 0, false), 60);
        yes("told anew", x.way(0, 1, 1));
        due("shorter", x.voyage(1, 0, false), 1);
        yes("99", x.way(0, 1, 99));
        yes("none again", x.way(0, 1, 0));
        due("none again", x.voyage(1, 0, false), -2);
    }

    private static void p5() {
        OwedToWinds x = new OwedToWinds();
        put(x, "dues 7;             !");
        due("end", x.end(20), 20);
        due("in order", x.text(), 0);
        for (int i = 1; i <= 15; i++) due("feed " + i, x.feed(0x64617920, 0x313b2020, 0x20202020, 0x20202020, -1), 20 * i);
        due("no more", x.feed(0, 0, 0, 0, 0), NONE);
        due("300", x.about(8), 300);
        x.end(281);
        due("one too many", x.feed(0, 0, 0, 0, 0), NONE);
        due("none came", x.about(8), 281);
        x.end(280);
        due("just so many", x.feed(0, 0, 0, 0, 0), 300);
        x.end(19);
        due("bytes of 255", x.text(), NONE);
        due("at the first", x.fault(1), 16);
        put(x, "dues 8;");
        due("highest first", x.text(), 1);
    }

    private static void p6() {
        OwedToWinds x = new OwedToWinds();
        due("end 0", x.end(0), 0);
        due("end 1", x.end(1), NONE);
        x.feed(0, 0, 0, 0, 0);
        due("end -1", x.end(-1), NONE);
        due("end 21", x.end(21), NONE);
        due("far off", x.end(LOW), NONE);
        due("nothing done", x.about(8), 20);
        due("end 20", x.end(20), 20);
        due("end 3", x.end(3), 3);
        due("three", x.about(8), 3);
        due("end 4", x.end(4), NONE);
        due("more behind them", x.feed(0, 0, 0, 0, 0), 23);
    }

    private static void p7() {
        OwedToWinds x = new OwedToWinds();
        due("an empty one", x.text(), 0);
        due("which asks for nothing", x.played(0), NONE);
        due("second", tell(x, "day 1;"), 1);
        due("tape is empty", x.about(8), 0);
        due("a fault", tell(x, "day 1"), NONE);
        due("tape is empty", x.about(8), 0);
        due("texts", x.about(2), 2);
        due("third", tell(x, "dues 1;"), 2);
        due("fourth", tell(x, "dues 2 ;"), 3);
        due("fifth", tell(x, "dues 3"), NONE);
        due("the tape stays", x.about(8), 6);
        due("it wasn't read", x.fault(0), 0);
        due("texts", x.about(2), 4);
    }

    private static void p8() {
        OwedToWinds x = new OwedToWinds();
        due("ahead of any", x.fault(0), NONE);
        due("ahead of any", x.fault(1), NONE);
        due("others", x.fault(2), NONE);
        due("others", x.fault(-1), NONE);
        fault("", 0, NONE);
        fault(" \n\n ", 0, NONE);
        fault("dues 1;", 0, NONE);
        laterTexts();
        tokens();
        places();
        numbers();
        depths();
        clauses();
    }

    private static void laterTexts() {
        OwedToWinds x = new OwedToWinds();
        tell(x, "comes " + times(8, "not ") + "1<(");
        due("fault", x.fault(0), 3);
        tell(x, "dues ((((((1 2");
        due("fault", x.fault(0), 1);
        due("place", x.fault(1), 13);
        due("nothing stays open", tell(x, "dues " + times(8, "(") + "1" + times(8, ")") + ";"), 0);
        due("no fault", x.fault(0), 0);
        due("no place", x.fault(1), NONE);
        tell(x, "dues 1;comes 1<-");
        due("at the end", x.fault(1), 16);
        cutOff(x, "comes 1<=2;", 8);
        cutOff(x, "dues 12;", 6);
        cutOff(x, "dues  ;", 5);
        cutOff(x, "dues day;", 6);
        cutOff(x, "daydues 1;", 3);
        due("laws of a text with a fault are not those of the next", tell(x, "comes 1=1;dues 2;"), 1);
    }

    /** What stood on the tape behind its end isn't read. */
    private static void cutOff(OwedToWinds x, String text, int end) {
        put(x, text);
        x.end(end);
        due("cut off " + text, x.text(), NONE);
        due("fault of that", x.fault(0), 1);
        due("place of that", x.fault(1), text.startsWith("dues day") ? 5 : end);
    }

    private static void tokens() {
        for (String sign : new String[] {"a", "z", "A", "Z", "m", "M"}) {
            fault("dues" + sign + " 1;", 1, 0);
            fault("dues 1" + sign + ";", 1, 6);
        }
        for (String sign : new String[] {"@", "[", "`", "{", "/", ":", "~", "_", "'", "$", "%", ",", "."}) {
            fault("dues" + sign + " 1;", 1, 4);
        }
        fault("dues 1/1-1+1*1;", 0, NONE);
        fault("dues 0+9;", 0, NONE);
        fault("comes 1 not 2;", 1, 8);
        fault("comes 1<2 not 2<3;", 1, 10);
        fault("comes 1<", 1, 8);
        fault("comes 1 <", 1, 9);
        fault("comes 1>", 1, 8);
        fault("dues\n1 ;\n", 0, NONE);
        fault("dues1;", 0, NONE);
        fault("dues 1\t;", 1, 6);
        fault("dues 1\r;", 1, 6);
        fault("dues 1\u0000;", 1, 6);
        fault("dues \u00e9;", 1, 5);
        fault("DUES 1;", 1, 0);
        fault("duesday;", 1, 0);
        fault("dues dayday;", 1, 5);
        fault("dues day day;", 1, 9);
        fault("  foo", 1, 2);
        fault("comes 1<=2;", 0, NONE);
        fault("comes 1>=2;", 0, NONE);
        fault("comes 1< =2;", 1, 9);
        fault("comes 1=>2;", 1, 8);
        fault("comes 1==2;", 1, 8);
        fault("comes 1<>2;", 1, 8);
        fault("comes 1#2;", 0, NONE);
        fault("comes 1!2;", 1, 7);
        fault("dues 1 2;", 1, 7);
        fault("dues 0000000000009999;", 0, NONE);
        fault(times(300, " "), 0, NONE);
        fault("dues " + times(147, "1+") + "1", 1, 300);
        fault("dues 1" + times(146, "+1") + ";", 0, NONE);
    }

    private static void places() {
        fault("dues", 1, 4);
        fault("dues  ", 1, 6);
        fault("dues 1", 1, 6);
        fault("dues ;", 1, 5);
        fault("dues +1;", 1, 5);
        fault("dues 1+;", 1, 7);
        fault("dues ();", 1, 6);
        fault("dues (1;", 1, 7);
        fault("dues 1);", 1, 6);
        fault("dues (1));", 1, 8);
        fault("dues (1+2)*(3-4)/day;", 0, NONE);
        fault("dues --1;", 0, NONE);
        fault("dues 1--1;", 0, NONE);
        fault("dues wind;", 1, 5);
        fault("dues not 1;", 1, 5);
        fault("dues 1 and 2;", 1, 7);
        fault("dues 1=1;", 1, 6);
        fault("dues round 1+1 to 2;", 1, 12);
        fault("dues round 1 to 2 to 3;", 1, 18);
        fault("dues round 1 to round 2 to 3*4;", 0, NONE);
        fault("dues round round 1 to 2 to 3;", 0, NONE);
        fault("dues (round 1) to 2;", 1, 13);
        fault("dues to 1;", 1, 5);
        fault("dues debt debt 1+debt(2);", 0, NONE);
        fault("comes 1;", 1, 7);
        fault("comes 1<2<3;", 1, 9);
        fault("comes (1<2);", 1, 8);
        fault("comes 1<2 and;", 1, 13);
        fault("comes 1<2 and 3;", 1, 15);
        fault("comes 1 and 2;", 1, 8);
        fault("comes 1+not 2<3;", 1, 8);
        fault("comes 1<not 2;", 1, 8);
        fault("comes (not 1<2);", 1, 7);
        fault("comes not;", 1, 9);
        fault("comes not not 1+2*3<4 or not 1=2 and(1)=2;", 0, NONE);
        fault("comes 1<2 or or 1<2;", 1, 13);
        fault("comes or 1<2;", 1, 6);
        fault("comes 1<2);", 1, 9);
        fault("comes 1<(2;", 1, 10);
        fault("wind", 1, 4);
        fault("wind 1 2", 1, 7);
        fault("wind weight", 1, 5);
        fault("wind 1 weight 1 purse 1;", 1, 16);
        fault("wind 1 weight 1 due 1", 1, 21);
        fault("wind -1", 1, 5);
        fault("village 1 due 1;", 1, 10);
        fault("village 1 purse day;", 1, 16);
        fault("way 0 of 1", 1, 6);
        fault("way 0 to 1 to 1;", 1, 11);
        fault("pay 0 to 1;", 1, 10);
        fault("merge 0 to 1 of 1;", 1, 13);
        fault("day day;", 1, 4);
        fault("day 1;;", 1, 6);
        fault("day (1);", 1, 4);
        fault("weight 1;", 1, 0);
        fault("purse 1;", 1, 0);
        fault("1;", 1, 0);
        fault("99999;", 1, 0);
        fault("dues 1 99999;", 1, 7);
        fault("not 1<2;", 1, 0);
    }

    private static void numbers() {
        fault("dues 10000;", 2, 5);
        fault("dues 1+99999999999999999999;", 2, 7);
        fault("dues roof;dues 10000;", 5, 5);
        fault("wind 0 weight 1 due 0;wind 3 weight 9 due 99;", 0, NONE);
        fault("wind 4", 2, 5);
        fault("wind 0 weight 0", 2, 14);
        fault("wind 0 weight 10", 2, 14);
        fault("wind 0 weight 1 due 100", 2, 20);
        fault("village 0 purse 0;village 9 purse 9999;", 0, NONE);
        fault("village 10 purse 0;", 2, 8);
        fault("village 9 purse 10000;", 2, 16);
        fault("way 0 to 5 of 0;way 5 to 5 of 99;", 0, NONE);
        fault("way 6 to 0 of 1;", 2, 4);
        fault("way 0 to 6 of 1;", 2, 9);
        fault("way 0 to 1 of 100;", 2, 14);
        fault("pay 5 to 0 of 1;pay 0 to 5 of 999;", 0, NONE);
        fault("pay 6 to 0 of 1;", 2, 4);
        fault("pay 0 to 6 of 1;", 2, 9);
        fault("pay 0 to 0 of 0;", 2, 14);
        fault("pay 0 to 0 of 1000;", 2, 14);
        fault("merge 5 to 5;merge 0 to 0;", 0, NONE);
        fault("merge 6 to 0;", 2, 6);
        fault("merge 0 to 6;", 2, 11);
        fault("day 1;day 60;", 0, NONE);
        fault("day 0;", 2, 4);
        fault("day 61;", 2, 4);
    }

    private static void depths() {
        fault("dues " + times(8, "(") + "1" + times(8, ")") + ";", 0, NONE);
        fault("dues " + times(9, "(") + "1" + times(9, ")") + ";", 3, 13);
        fault("dues " + times(8, "-") + "1;", 0, NONE);
        fault("dues " + times(9, "-") + "1;", 3, 13);
        fault("dues " + times(8, "debt ") + "1;", 0, NONE);
        fault("dues " + times(9, "debt ") + "1;", 3, 45);
        fault("dues " + times(8, "round ") + "1" + times(8, " to 2") + ";", 0, NONE);
        fault("dues " + times(9, "round ") + "1;", 3, 53);
        fault("dues " + times(8, "round 1 to ") + "2;", 0, NONE);
        fault("dues " + times(8, "round 1 to ") + "-2;", 3, 93);
        fault("dues " + times(7, "(") + "round(", 3, 17);
        fault("dues " + times(7, "(") + "round 1 to(", 3, 22);
        fault("dues " + times(7, "(") + "round 1 to 1*(", 1, 26);
        fault("dues " + times(7, "(") + "-1*(-1)" + times(7, ")") + ";", 3, 16);
        fault("dues " + times(6, "(") + "-1*(-1)" + times(6, ")") + ";", 0, NONE);
        fault("dues " + times(8, "(") + "1" + times(8, ")") + "+" + times(8, "-") + "1*" + times(8, "-") + "1;", 0, NONE);
        fault("comes " + times(8, "not ") + "1<2;", 0, NONE);
        fault("comes " + times(9, "not ") + "1<2;", 3, 38);
        fault("comes " + times(8, "not ") + "1<-2;", 3, 40);
        fault("comes " + times(8, "not ") + "-1<2;", 3, 38);
        fault("comes " + times(7, "not ") + "-1<-2;", 0, NONE);
        fault("comes " + times(8, "not ") + "1<2 and " + times(8, "not ") + "1<2 or -1<" + times(8, "-") + "2;", 0, NONE);
    }

    private static void clauses() {
        for (String law : new String[] {"comes 1<2;", "blows 1;", "takes 1;", "catch 1;", "dues 1;"}) {
            fault(law + law, 4, law.length());
            fault(law + "day 1;" + law, 4, law.length() + 6);
        }
        fault("blows 1;takes 1;catch 1;dues 1;comes 1=1;", 0, NONE);
        for (String name : new String[] {"day", "quarter", "owed", "due", "weight", "force"}) {
            fault("comes " + name + "=1;blows " + name + ";takes " + name + ";catch " + name + ";dues " + name + ";", 0, NONE);
        }
        for (String name : new String[] {"roof", "purse"}) {
            fault("takes " + name + ";catch 1-" + name + ";", 0, NONE);
            fault("comes " + name + "=1;", 5, 6);
            fault("comes 1=" + name + ";", 5, 8);
            fault("blows " + name + ";", 5, 6);
            fault("dues 1+" + name + ";", 5, 7);
            fault("dues 1 " + name + ";", 1, 7);
        }
        fault(times(24, "day 1;"), 0, NONE);
        fault(times(25, "day 1;"), 6, 144);
        fault(times(24, "day 1;") + "foo", 1, 144);
        fault(times(23, "day 1;") + "dues 1; dues 1;", 4, 146);
        fault(times(23, "day 1;") + "dues 1; blows 1;", 6, 146);
        fault(times(24, "day 1;") + "  day", 6, 146);
    }

    private static void p9() {
        OwedToWinds x = new OwedToWinds();
        x.wind(0, 1, 4);
        no("none told", x.by(0));
        no("others", x.by(-2));
        yes("none", x.by(NONE));
        tell(x, "dues 7;");
        tell(x, "dues 8;");
        due("still none", x.about(3), NONE);
        yes("second", x.by(1));
        due("second", x.about(3), 1);
        due("its dues", x.ofWind(0, 8), 8);
        no("no third", x.by(2));
        due("stays", x.about(3), 1);
        yes("first", x.by(0));
        due("its dues", x.ofWind(0, 8), 7);
        yes("none", x.by(NONE));
        due("as told", x.ofWind(0, 8), 4);
        no("far off", x.by(HIGH));
        no("far off", x.by(LOW));
    }

    private static void p10() {
        OwedToWinds x = played("wind 0 weight 1 due 20;wind 1 weight 1 due 0;village 9 purse 9999;village 0 purse 5;");
        due("village", x.pay(2, 0, 1), -1000);
        due("village", x.pay(-1, 0, 1), -1000);
        due("wind", x.pay(0, 2, 1), -1000);
        due("wind", x.pay(0, -1, 1), -1000);
        due("pence", x.pay(0, 0, 0), -1000);
        due("pence", x.pay(0, 0, 1000), -1000);
        due("pence", x.pay(0, 0, -5), -1000);
        due("no steps", x.about(4), 0);
        due("pay", x.pay(1, 0, 5), -5);
        due("purse", x.ofVillage(1, 1), 0);
        due("taken isn't paid", x.ofVillage(1, 2), 0);
        due("a step", x.about(4), 1);
        due("no more than its purse", x.pay(1, 0, 1), -1000);
        due("999", x.pay(0, 1, 999), -999);
        due("below -999", x.pay(0, 1, 1), -1000);
        due("below -999", x.pay(0, 0, 995), -1000);
        due("to -999", x.pay(0, 0, 994), -999);
        due("purse", x.ofVillage(0, 1), 9999 - 999 - 994);
        x.merge(1, 0);
        due("gone", x.pay(0, 1, 1), -1000);
        due("steps", x.about(4), 4);
        OwedToWinds y = ruled(played("wind 0 weight 1 due 0;village 0 purse 9999;"), "dues 99;blows 1;takes 0;");
        for (int i = 0; i < 5; i++) y.day(40);
        due("owed", y.ofWind(0, 3), 29 * 99);
        due("1000 at once", y.pay(0, 0, 1000), -1000);
        due("999", y.pay(0, 0, 999), 29 * 99 - 999);
        due("1", y.pay(0, 0, 1), 29 * 99 - 1000);
    }

    private static void p11() {
        OwedToWinds x = played("wind 0 weight 9 due 99;wind 1 weight 8 due 98;wind 2 weight 7 due 97;wind 3 weight 1 due 1;"
                + "village 9 purse 9999;");
        due("into itself", x.merge(0, 0), -1000);
        due("none such", x.merge(0, 4), -1000);
        due("none such", x.merge(4, 0), -1000);
        due("none such", x.merge(-1, 0), -1000);
        due("no step", x.about(4), 0);
        x.pay(0, 0, 999);
        x.pay(0, 1, 10);
        due("not below -999", x.merge(1, 0), -999);
        int[] into = {0, 17, 197, -999, 0, 0};
        int[] gone = {1, 8, 98, -10, 0, 1};
        for (int what = 0; what < 6; what++) {
            due("the one into which " + what, x.ofWind(0, what), into[what]);
            due("the one that is gone " + what, x.ofWind(1, what), gone[what]);
        }
        due("a step", x.about(4), 3);
        due("gone", x.merge(1, 2), -1000);
        due("gone", x.merge(2, 1), -1000);
        due("another", x.merge(2, 0), -999);
        due("due is more", x.ofWind(0, 2), 294);
        due("weight is more", x.ofWind(0, 1), 24);
        due("sum", x.merge(0, 3), -999);
        due("quarter stays", x.ofWind(3, 0), 3);
        due("the last one", x.ofWind(3, 1), 25);
        // Drawn are 1, 1, 1: its force is 5 with blows day+3 on day 2; the other one's is 0.
        OwedToWinds y = ruled(played("wind 0 weight 1 due 50;wind 1 weight 1 due 60;"), "blows day+3;");
        y.day(3);
        due("force", y.ofWind(1, 4), 5);
        due("owed together", y.merge(1, 0), 110);
        due("the greater force", y.ofWind(0, 4), 5);
        due("gone one's force stays", y.ofWind(1, 4), 5);
        due("gone one's owed stays", y.ofWind(1, 3), 60);
        // 99 owed each week: after 101 weeks both are owed 9999, at most.
        y.undo();
        due("the other way", y.merge(0, 1), 110);
        due("the greater force", y.ofWind(1, 4), 5);
        y = ruled(played("wind 0 weight 3 due 0;wind 1 weight 1 due 0;wind 2 weight 1 due 0;"), "blows 7-day;");
        y.day(2);
        due("127 mod 5 is 2", y.ofWind(0, 4), 6);
        y.merge(0, 2);
        due("the greater one", y.ofWind(2, 4), 6);
        OwedToWinds z = played("wind 0 weight 1 due 99;wind 1 weight 1 due 99;");
        for (int i = 0; i < 12; i++) z.day(60);
        due("103 weeks' dues", z.ofWind(0, 3), 9999);
        due("9999 at most", z.merge(0, 1), 9999);
        due("as day", z.is(0), 720);
    }

    private static void p12() {
        OwedToWinds x = new OwedToWinds();
        due("0", x.day(0), NONE);
        due("61", x.day(61), NONE);
        due("-1", x.day(-1), NONE);
        due("no winds", x.day(60), 0);
        due("no draw", x.is(1), 127);
        due("day", x.is(0), 60);
        due("steps", x.about(4), 30);
        due("pages", x.book(NONE, 0), 30);
        for (int i = 0; i < 165; i++) x.day(60);
        due("day", x.is(0), 9960);
        due("beyond 9999", x.day(40), NONE);
        due("nothing done", x.is(0), 9960);
        due("up to 9999", x.day(39), 0);
        due("day", x.is(0), 9999);
        due("none can pass", x.day(1), NONE);
        theDay();
        theLaws();
    }

    private static void theDay() {
        // Drawn: 127 mod 4 = 3, 14637 mod 4 = 1, 24931 mod 4 = 3, 7473 mod 4 = 1, 21480 mod 4 = 0.
        OwedToWinds x = played("wind 0 weight 1 due 30;wind 1 weight 2 due 20;wind 2 weight 1 due 47;"
                + "village 1 purse 3;village 3 purse 9998;");
        due("by the third, of force 4", x.day(1), 3 + 1);
        due("all dues on day 0", x.ofWind(0, 3) * 10000 + x.ofWind(1, 3) * 100 + x.ofWind(2, 3), 302047);
        due("purse 0 at least, then catch", x.ofVillage(0, 1), 3);
        due("purse 9999 at most", x.ofVillage(1, 1), 9999);
        due("taken", x.ofVillage(0, 2), 3);
        due("taken", x.ofVillage(1, 2), 1);
        due("force", x.ofWind(2, 4), 4);
        due("the others' force", x.ofWind(0, 4) + x.ofWind(1, 4), 0);
        due("x", x.is(1), 14637);
        due("by the second, of force 2", x.day(1), 1);
        due("force stays", x.ofWind(2, 4), 4);
        due("3, 1, 0 (of force 3)", x.day(3), 4 + 1 + 2);
        due("no dues but on day 0", x.ofWind(0, 3), 30);
        due("day 5, 6", x.day(2) >= 0 ? x.ofWind(0, 3) : 0, 30);
        x.day(1);
        due("on day 7", x.ofWind(0, 3), 60);
        // Its own strength taken whole though the purse has less.
        OwedToWinds y = ruled(played("wind 0 weight 1 due 99;village 0 purse 2;"), "catch 1;");
        due("whole", y.day(1), 9);
        due("whole", y.ofVillage(0, 2), 9);
        due("purse", y.ofVillage(0, 1), 1);
        // Gone ones are neither drawn nor owed.
        OwedToWinds z = played("wind 0 weight 9 due 30;wind 1 weight 1 due 20;merge 0 to 1;village 0 purse 50;");
        due("by the second", z.day(1), 5);
        due("its dues", z.ofWind(1, 3), 50);
        due("not owed", z.ofWind(0, 3), 0);
        due("written", z.book(0, 1), 1);
        // Calm by blows 0, calm by not coming: the force is 0 then.
        OwedToWinds c = ruled(played("wind 2 weight 1 due 0;village 0 purse 50;"), "comes day#1;blows 3-day;catch 2;");
        due("3 of it", c.day(1), 3);
        due("force", c.ofWind(0, 4), 3);
        due("it doesn't come", c.day(1), 0);
        due("force", c.ofWind(0, 4), 0);
        due("catch in calm too", c.ofVillage(0, 1), 50 - 3 + 2 + 2);
        due("1 of it", c.day(1), 1);
        due("blows 0", c.day(1), 0);
        due("calm", c.book(3, 1), NONE);
        due("force", c.ofWind(0, 4), 0);
        due("in calm a draw", c.is(1), 21480);
        // Of no winds there is no force, whatever blew before.
        OwedToWinds e = ruled(played("village 0 purse 5;"), "catch force*2+1;blows 9;");
        e.image();
        e.wind(0, 1, 0);
        e.day(1);
        e.back();
        due("calm", e.day(1), 0);
        due("force", e.book(0, 2), 0);
        due("catch in calm", e.ofVillage(0, 1), 6);
        // Dues are reckoned one behind the other; a village's takes ahead of its catch.
        OwedToWinds d = ruled(played("wind 0 weight 1 due 1;wind 1 weight 1 due 1;village 0 purse 10;village 0 purse 10;"),
                "dues 5+debt 0*2;takes purse/2;catch purse;blows 1;");
        due("5 of either", d.day(1), 10);
        due("first", d.ofWind(0, 3), 5);
        due("second", d.ofWind(1, 3), 15);
        due("5 and 5 more", d.ofVillage(0, 1), 10);
    }

    private static void theLaws() {
        sum("7-2-3", 2);
        sum("7-(2-3)", 8);
        sum("2+3*4", 14);
        sum("(2+3)*4", 20);
        sum("40/4/2", 5);
        sum("40/(4/2)", 20);
        sum("7/2*2", 6);
        sum("-7/2", -3);
        sum("7/-2", -3);
        sum("-7/-2", 3);
        sum("7/0", 0);
        sum("0/0", 0);
        sum("2--3", 5);
        sum("-2*3", -6);
        sum("9999*9999/9999", 100);
        sum("9999*9999/(200*100)", 50);
        sum("(0-9999)*9999/9999+50", -50);
        sum("9999*100+99-9999*100-40", 59);
        sum("9999*100+100-9999*100-40", 60);
        sum("9999*100+101-9999*100-40", 60);
        sum("9999*100+9999-9999*100-40", 60);
        sum("-9999*100-99+9999*100+40", -59);
        sum("-9999*100-100+9999*100+40", -60);
        sum("-9999*100-101+9999*100+40", -60);
        sum("9999*9999*9999-9999*9999+3", 3);
        sum("-9999*9999-9999*9999+9999*9999+4", 4);
        sum("round 7 to 5", 5);
        sum("round 8 to 5", 10);
        sum("round 5 to 10", 10);
        sum("round 4 to 10", 0);
        sum("round -5 to 10", 0);
        sum("round -6 to 10", -10);
        sum("round -15 to -10", -10);
        sum("round 15 to -10", 20);
        sum("round 13 to 0", 13);
        sum("round 0 to 7", 0);
        sum("round -7 to 1", -7);
        sum("round 3 to 2*3", 12);
        sum("round (9999*100) to (9999*60) - 9999*100 - 30", 70);
        sum("round 9 to 4 + round 1 to 3", 8);
        sum("- round 9 to 4", -8);
        sum("quarter", 3);
        sum("weight", 7);
        sum("due", 20);
        sum("owed", 0);
        sum("force", 0);
        sum("day", 0);
        sum("debt 1", -4);
        sum("debt 2", 0);
        sum("debt -1", 0);
        sum("debt 9999", 0);
        sum("debt(3-2)*3", -12);
        sum("-debt debt 0", 0);
        sum("debt 1*debt 1", 16);
        ask("1<2", 1);
        ask("2<2", 0);
        ask("2<=2", 1);
        ask("3<=2", 0);
        ask("3>2", 1);
        ask("2>2", 0);
        ask("2>=2", 1);
        ask("1>=2", 0);
        ask("2=2", 1);
        ask("2=3", 0);
        ask("2#3", 1);
        ask("2#2", 0);
        ask("1+1=4-2", 1);
        ask("not 1<2", 0);
        ask("not not 1<2", 1);
        ask("not 1<2 or 1<2", 1);
        ask("not 2<1 and 2<1", 0);
        ask("1=1 or 1=1 and 1=2", 1);
        ask("1=2 and 1=1 or 1=1", 1);
        ask("1=2 and 1=1 or 1=2", 0);
        ask("1=1 and 1=1 and 1=2", 0);
        ask("1=2 or 1=2 or 1=1", 1);
        ask("quarter=3 and weight=7 and due=20 and owed=0 and force=0 and day=0", 1);
        ask("debt 1<0", 1);
        ask("not 1=2 and 1=1", 1);
        ask("1<2 and 1<=2 and 2>1 and 2>=1 and 1=1 and 1#2", 1);
        ask("1<2 or 1<=2 or 2>1 or 2>=1 or 1=1 or 1#2", 1);
        OwedToWinds f = ruled(played("wind 0 weight 1 due 0;wind 0 weight 1 due 0;"), "blows 5;");
        f.day(1);
        f.by(NONE);
        due("the second blew", f.ofWind(1, 4), 5);
        ruled(f, "comes force=5;blows force+1;dues force+2;");
        due("comes", f.ofWind(0, 7), 0);
        due("comes", f.ofWind(1, 7), 1);
        due("blows", f.ofWind(0, 6), 1);
        due("blows", f.ofWind(1, 6), 6);
        due("dues", f.ofWind(0, 8), 2);
        due("dues", f.ofWind(1, 8), 7);
        OwedToWinds x = lawful();
        ruled(x, "takes purse-roof*force+quarter*10-weight+owed+due-day;catch roof*10+purse+force*3+quarter+weight+owed+due;");
        due("takes", x.takes(0, 0, 2), 4 - 4 + 30 - 7 + 20);
        due("takes", x.takes(1, 1, 9), 77 - 54 + 10 - 2 - 4 + 9);
        due("catch", x.catches(0, 0, 5), 20 + 4 + 15 + 3 + 7 + 20);
        due("catch in calm", x.ofVillage(0, 3), 24);
        due("catch 99 at most", x.ofVillage(1, 3), 99);
        ruled(x, "blows 10;dues 100;takes 100;catch 0-1;");
        due("9 at most", x.ofWind(0, 6), 9);
        due("99 at most", x.ofWind(0, 8), 99);
        due("99 at most", x.takes(0, 0, 1), 99);
        due("0 at least", x.catches(0, 0, 1), 0);
        ruled(x, "blows -1;dues -1;takes -1;catch 100;");
        due("0 at least", x.ofWind(0, 6), 0);
        due("0 at least", x.ofWind(0, 8), 0);
        due("0 at least", x.takes(0, 0, 1), 0);
        due("99 at most", x.catches(0, 0, 1), 99);
    }

    private static void p13() {
        OwedToWinds x = new OwedToWinds();
        due("none told", x.played(0), -2);
        due("others", x.played(-1), -2);
        due("text", tell(x, "dues 99;wind 2 weight 3 due 40;village 1 purse 9;blows 9;village 2 purse 8;way 1 to 0 of 2;"
                + "pay 1 to 0 of 3;day 2;merge 0 to 0;day 5;"), 0);
        due("others", x.played(1), -2);
        due("a merging that can't be", x.played(0), 8);
        due("what was done stays", x.is(0), 2);
        due("laws don't rule by that", x.about(3), NONE);
        due("owed", x.ofWind(0, 3), 37);
        due("force by no law", x.ofWind(0, 4), 3);
        due("purses", x.ofVillage(0, 1) * 100 + x.ofVillage(1, 1), 1109);
        due("steps", x.about(4), 3);
        due("undo", x.undo(), 2);
        due("way", x.voyage(0, 1, false), 1);
        due("once more, the way told again", x.played(0), 8);
        due("winds", x.about(0), 2);
        OwedToWinds y = new OwedToWinds();
        tell(y, "pay 0 to 0 of 1;");
        tell(y, "comes 1=1;way 0 to 1 of 1;");
        tell(y, times(7, "village 0 purse 0;"));
        tell(y, "catch 1;" + times(7, "wind 0 weight 1 due 0;") + "day 1;");
        due("can't pay", y.played(0), 0);
        due("no villages", y.played(1), 1);
        due("seven", y.played(2), 6);
        due("six", y.about(1), 6);
        due("none more", y.played(2), 0);
        due("seven", y.played(3), 7);
        due("no day", y.is(0), 0);
        OwedToWinds z = new OwedToWinds();
        tell(z, times(24, "day 60;"));
        for (int i = 0; i < 6; i++) due("1440 days", z.played(0), NONE);
        due("22 times and 39 of 60", z.played(0), 22);
        due("those that can pass", z.is(0), 9999);
        due("none can pass", z.played(0), 0);
        due("laws alone", tell(z, "dues 1;takes 2;"), 1);
        due("all done", z.played(1), NONE);
        due("paid and merged", tell(z, "wind 0 weight 1 due 1;wind 1 weight 2 due 2;village 0 purse 50;"
                + "merge 0 to 1;pay 0 to 1 of 50;"), 2);
        due("all done", z.played(2), NONE);
        due("paid", z.ofWind(1, 3), -50);
    }

    private static void p14() {
        OwedToWinds x = new OwedToWinds();
        due("seed", x.years(-1, 1), NONE);
        due("seed", x.years(10000, 1), NONE);
        due("n", x.years(0, 0), NONE);
        due("n", x.years(0, 41), NONE);
        due("no step", x.about(4), 0);
        due("x", x.is(1), 127);
        due("what there are none of", x.years(9999, 1), 0);
        due("x of 20125", x.is(1), (20125 * 353 + 233) % 30427);
        due("one step", x.about(4), 1);
        // Seed 0: x is 127 (2, but mod 7 is 1), 14637 (2, mod 7 is 0), 24931 (1), 7473 (3: a day).
        OwedToWinds y = played("wind 0 weight 5 due 40;wind 1 weight 5 due 3;wind 2 weight 5 due 2;wind 3 weight 5 due 1;"
                + "village 0 purse 100;village 0 purse 90;");
        due("two", y.years(0, 2), 0);
        due("14637 mod 4 is 1, a third of it mod 4 is 3", y.ofWind(1, 5), 1);
        due("into that", y.ofWind(3, 1), 10);
        due("none else", y.ofWind(0, 5) + y.ofWind(2, 5) + y.ofWind(3, 5), 0);
        due("x", y.is(1), 24931);
        due("one step", y.about(4), 1);
        due("three", y.back() + (yRestart(y) ? y.years(0, 3) : 0), 0);
        due("24931 mod 2 is 1, a fifth of it mod 4 is 2: 1 and 11", y.ofVillage(1, 1), 78);
        due("paid", y.ofWind(2, 3), -12);
        due("the other one's purse", y.ofVillage(0, 1), 100);
        due("four", y.years(0, 4), 1);
        due("the day draws 21480 mod 20", y.book(0, 1), 0);
        due("x behind that", y.is(1), 6350);
        due("as day 0", y.ofWind(0, 3), 40);
        due("steps", y.about(4), 2);
        due("undo", y.undo(), 1);
        due("day", y.is(0), 0);
        due("owed as after the first", y.ofWind(2, 3), -12);
        due("no pages", y.book(NONE, 0), 0);
        OwedToWinds z = new OwedToWinds();
        for (int i = 0; i < 166; i++) z.day(60);
        z.day(38);
        due("one can pass", z.years(1, 40), 9999);
        due("none can pass", z.years(1, 40), 9999);
        due("a step yet", z.undo(), 29);
        OwedToWinds v = played("village 0 purse 50;");
        due("of nine the fourth is a day, which draws nothing", v.years(0, 9), 1);
        due("nobody is paid", v.ofVillage(0, 1), 50);
        due("x", v.is(1), (27985 * 353 + 233) % 30427);
        OwedToWinds w = played("wind 0 weight 1 due 5;");
        due("of eight the fourth is a day, which draws", w.years(0, 8), 1);
        due("nobody pays", w.ofWind(0, 3), 5);
        due("x", w.is(1), (27985 * 353 + 233) % 30427);
        chance();
    }

    private static void chance() {
        OwedToWinds x = played("wind 0 weight 1 due 5;village 0 purse 12;");
        x.years(0, 3);
        due("12 of 12", x.ofVillage(0, 1), 0);
        due("12 paid", x.ofWind(0, 3), -12);
        x = played("wind 0 weight 1 due 5;village 0 purse 11;");
        x.years(0, 3);
        due("12 of 11 can't be", x.ofVillage(0, 1), 11);
        // Seed 10: 147 is 2 mod 5, 0 mod 7; of five winds 2, and 49 is 4.
        x = played(times(5, "wind 0 weight 1 due 5;"));
        x.years(10, 1);
        due("the third", x.ofWind(2, 5), 1);
        due("into the last", x.ofWind(4, 1), 2);
        x.years(10, 1);
        due("gone already", x.ofWind(4, 1), 2);
        // Seed 45: 217 is 2, and 72 is 2: the same one.
        x.undo();
        x.years(45, 1);
        due("into itself can't be", x.ofWind(2, 5), 1);
        // Seed 9: 145, a fifth of it is 29: the last of five winds; 6 pence.
        x.village(0, 50);
        x.years(9, 1);
        due("the last", x.ofWind(4, 3), -6);
        // Seed 12: 151 is 1 mod 5: a fifth of it is 30: the first; 12 pence.
        x.years(12, 1);
        due("the first", x.ofWind(0, 3), -12);
    }

    private static boolean yRestart(OwedToWinds y) {
        tell(y, "wind 0 weight 5 due 40;wind 1 weight 5 due 3;wind 2 weight 5 due 2;wind 3 weight 5 due 1;"
                + "village 0 purse 100;village 0 purse 90;");
        return y.played(0) == NONE;
    }

    private static void p15() {
        OwedToWinds x = played("wind 0 weight 1 due 30;village 0 purse 50;");
        due("none", x.undo(), NONE);
        x.day(1);
        x.wind(1, 4, 20);
        x.village(2, 7);
        x.way(0, 1, 9);
        x.took(0, 1);
        x.sail(1);
        x.kind(1);
        x.pay(0, 1, 6);
        x.merge(0, 1);
        x.day(1);
        due("steps", x.about(4), 4);
        due("a day", x.undo(), 3);
        due("day", x.is(0), 1);
        due("pages", x.book(NONE, 0), 1);
        due("merged", x.undo(), 2);
        due("not gone", x.ofWind(0, 5), 0);
        due("weight", x.ofWind(1, 1), 4);
        due("due", x.ofWind(1, 2), 20);
        due("owed", x.ofWind(1, 3), -6);
        due("force", x.ofWind(1, 4), 0);
        due("paid", x.undo(), 1);
        due("owed", x.ofWind(1, 3), 0);
        due("purse", x.ofVillage(0, 1), 50);
        due("first day", x.undo(), 0);
        due("day", x.is(0), 0);
        due("x", x.is(1), 127);
        due("owed", x.ofWind(0, 3), 0);
        due("force", x.ofWind(0, 4), 0);
        due("taken", x.ofVillage(0, 2), 0);
        due("as told", x.ofWind(1, 0) * 1000 + x.ofWind(1, 1) * 100 + x.ofWind(1, 2), 1420);
        due("as told", x.ofVillage(1, 0) * 100 + x.ofVillage(1, 1), 207);
        due("the way stays", x.voyage(0, 1, true), 0);
        due("lists stay", x.about(5) + x.about(6) + x.about(7), 3);
        due("none", x.undo(), NONE);
        x.day(40);
        due("30 at most", x.undo(), 29);
        for (int i = 28; i >= 0; i--) due("undo", x.undo(), i);
        due("no more", x.undo(), NONE);
        due("day 10", x.is(0), 10);
        due("pages of those ten", x.book(NONE, 0), 10);
        due("the eldest", x.book(0, 0), 0);
        // The book as ahead of a step that wrote over all of it.
        OwedToWinds y = played("wind 0 weight 1 due 30;village 0 purse 50;");
        y.day(35);
        int eldest = y.book(0, 0);
        y.years(7, 40);
        y.years(8, 40);
        y.years(9, 40);
        y.undo();
        y.undo();
        y.undo();
        due("the eldest", y.book(0, 0), eldest);
        due("the latest", y.book(29, 0), 34);
    }

    private static void p16() {
        OwedToWinds x = ruled(played("wind 3 weight 4 due 55;"), "comes weight=4;blows owed/10+force;dues due-1;");
        int[] first = {3, 4, 55, 0, 0, 0, 0, 1, 54};
        int[] then = {3, 4, 55, 54, 5, 0, 9, 1, 54};
        for (int what = 0; what <= 8; what++) due("of wind " + what, x.ofWind(0, what), first[what]);
        x.day(1);
        for (int what = 0; what <= 8; what++) due("of wind " + what, x.ofWind(0, what), then[what]);
        due("others", x.ofWind(0, 9), -1000);
        due("others", x.ofWind(0, -1), -1000);
        due("others", x.ofWind(1, 0), -1000);
        due("others", x.ofWind(-1, 0), -1000);
        ruled(x, "comes weight#4;");
        due("doesn't come", x.ofWind(0, 7), 0);
        due("owed by 10", x.ofWind(0, 6), 5);
        x.by(NONE);
        x.wind(0, 1, 0);
        x.merge(1, 0);
        due("gone", x.ofWind(1, 5), 1);
        due("gone one's", x.ofWind(1, 6), 0);
        due("merging into", x.ofWind(0, 1), 5);
        x.wind(0, 1, 99);
        x.merge(2, 0);
        due("due", x.ofWind(0, 2), 154);
        due("dues 99 at most", x.ofWind(0, 8), 99);
        x.day(20);
        due("9 at most", x.ofWind(0, 6), 9);
    }

    private static void p17() {
        OwedToWinds x = played("wind 0 weight 1 due 50;village 2 purse 40;");
        due("roof", x.ofVillage(0, 0), 2);
        due("purse", x.ofVillage(0, 1), 40);
        due("taken", x.ofVillage(0, 2), 0);
        due("catch in calm", x.ofVillage(0, 3), 0);
        x.day(2);
        due("purse", x.ofVillage(0, 1), 40);
        due("taken", x.ofVillage(0, 2), 6);
        due("others", x.ofVillage(0, 4), NONE);
        due("others", x.ofVillage(0, -1), NONE);
        due("others", x.ofVillage(1, 0), NONE);
        due("others", x.ofVillage(-1, 0), NONE);
        ruled(x, "catch quarter+owed+due+weight+force+purse+roof+day;");
        due("in calm of no wind", x.ofVillage(0, 3), 40 + 2 + 2);
    }

    private static void p18() {
        OwedToWinds x = played("wind 0 weight 1 due 50;village 2 purse 40;village 9 purse 40;");
        due("force less roof", x.takes(0, 0, 9), 7);
        due("force less roof", x.takes(0, 0, 1), 0);
        due("force less roof", x.takes(0, 1, 9), 0);
        due("wind", x.takes(1, 0, 5), NONE);
        due("wind", x.takes(-1, 0, 5), NONE);
        due("village", x.takes(0, 2, 5), NONE);
        due("village", x.takes(0, -1, 5), NONE);
        due("force", x.takes(0, 0, 0), NONE);
        due("force", x.takes(0, 0, 10), NONE);
        x.wind(0, 1, 0);
        x.merge(0, 1);
        due("a gone one would too", x.takes(0, 0, 9), 7);
        ruled(x, "takes purse+force;");
        due("by the law", x.takes(1, 1, 9), 49);
        due("nothing is done", x.ofVillage(1, 1) + x.ofWind(1, 4), 40);
    }

    private static void p19() {
        OwedToWinds x = played("wind 2 weight 1 due 50;village 2 purse 40;");
        due("3", x.catches(0, 0, 1), 3);
        due("3", x.catches(0, 0, 9), 3);
        due("wind", x.catches(1, 0, 5), NONE);
        due("wind", x.catches(-1, 0, 5), NONE);
        due("village", x.catches(0, 1, 5), NONE);
        due("village", x.catches(0, -1, 5), NONE);
        due("force", x.catches(0, 0, 0), NONE);
        due("force", x.catches(0, 0, 10), NONE);
        ruled(x, "catch force*quarter+weight;");
        due("by the law", x.catches(0, 0, 7), 15);
        due("nothing is done", x.ofWind(0, 4), 0);
    }

    private static void p20() {
        OwedToWinds x = played("wind 0 weight 1 due 0;");
        x.day(2);
        due("day", x.is(0), 2);
        due("x", x.is(1), 24931);
        due("others", x.is(2), -2);
        due("others", x.is(-1), -2);
    }

    private static void p21() {
        OwedToWinds x = ruled(played("wind 0 weight 1 due 0;wind 0 weight 1 due 0;village 1 purse 0;village 0 purse 0;"),
                "blows day;takes force*11-roof;");
        due("none", x.book(NONE, 0), 0);
        due("none such", x.book(0, 0), -2);
        x.day(10);
        due("ten", x.book(NONE, 0), 10);
        int[][] pages = {{0, NONE, 0, 0}, {1, 1, 1, 21}, {2, 1, 2, 43}, {3, 1, 3, 65}, {4, 0, 4, 87}, {5, 0, 5, 109},
            {6, 0, 6, 131}, {7, 0, 7, 153}, {8, 1, 8, 175}};
        for (int i = 0; i < 9; i++) {
            for (int what = 0; what < 4; what++) due("page " + i + " " + what, x.book(i, what), pages[i][what]);
        }
        due("force 9 takes 99 of either", x.book(9, 3), 197);
        due("none such", x.book(10, 0), -2);
        due("none such", x.book(-2, 0), -2);
        due("others", x.book(0, 4), -2);
        due("others", x.book(0, -1), -2);
        x.day(25);
        due("30 at most", x.book(NONE, 0), 30);
        due("the eldest", x.book(0, 0), 5);
        due("the latest", x.book(29, 0), 34);
        due("none such", x.book(30, 0), -2);
        OwedToWinds y = ruled(new OwedToWinds(), "blows 9;takes 99;");
        for (int i = 0; i < 6; i++) y.wind(0, 1, 0);
        for (int i = 0; i < 6; i++) y.village(0, 0);
        due("six of 99", y.day(1), 594);
        due("six of 99", y.book(0, 3), 594);
        due("force", y.book(0, 2), 9);
        due("127 mod 6", y.book(0, 1), 1);
    }

    private static OwedToWinds seaside() {
        return played("wind 0 weight 1 due 35;wind 3 weight 1 due 20;village 1 purse 20;village 0 purse 9;");
    }

    /** That a question changes nothing. */
    private static void same(OwedToWinds x, int day, int number) {
        due("day as it was", x.is(0), day);
        due("x as it was", x.is(1), number);
        due("steps as they were", x.about(4), 0);
        due("book as it was", x.book(NONE, 0), 0);
        due("owed as it was", x.ofWind(0, 3), 0);
        due("purse as it was", x.ofVillage(0, 1), 20);
    }

    private static void p22() {
        // Drawn 1, 1, 1, 1, 0 (force 3): takes 1 + 2 four times, then 2 + 3.
        OwedToWinds x = seaside();
        due("1", x.foretold(1), 3);
        due("4", x.foretold(4), 12);
        due("5", x.foretold(5), 17);
        due("0", x.foretold(0), NONE);
        due("61", x.foretold(61), NONE);
        due("-1", x.foretold(-1), NONE);
        same(x, 0, 127);
        int all = x.foretold(60);
        due("as it comes", x.day(60), all);
        OwedToWinds y = ruled(seaside(), "takes 1;blows 1;");
        for (int i = 0; i < 166; i++) y.day(60);
        y.day(36);
        due("those that can pass", y.foretold(60), 3 * 2);
        due("those that can pass", y.foretold(2), 2 * 2);
        y.day(3);
        due("none", y.foretold(60), 0);
    }

    private static void p23() {
        OwedToWinds x = seaside();
        due("purse", x.purse(1, 0), 20 - 1 + 3);
        due("purse", x.purse(5, 0), 20 - 4 - 2 + 15);
        due("purse", x.purse(5, 1), 9 - 8 - 3 + 15);
        due("n", x.purse(0, 0), NONE);
        due("n", x.purse(61, 0), NONE);
        due("village", x.purse(1, 2), NONE);
        due("village", x.purse(1, -1), NONE);
        same(x, 0, 127);
    }

    private static void p24() {
        OwedToWinds x = seaside();
        due("owed", x.owed(1, 0), 35);
        due("owed", x.owed(7, 0), 35);
        due("owed", x.owed(8, 0), 70);
        due("owed", x.owed(60, 1), 9 * 20);
        due("n", x.owed(0, 0), -1000);
        due("n", x.owed(61, 0), -1000);
        due("wind", x.owed(1, 2), -1000);
        due("wind", x.owed(1, -1), -1000);
        same(x, 0, 127);
        x.merge(0, 1);
        due("gone", x.owed(60, 0), 0);
    }

    private static void p25() {
        OwedToWinds x = new OwedToWinds();
        due("no winds", x.arrears(), NONE);
        x.wind(0, 1, 5);
        due("owed 5 at the first calm's end", x.arrears(), 1);
        ruled(x, "blows 3-day;");
        due("the first calm is on day 3", x.arrears(), 4);
        ruled(x, "blows 1;");
        due("no calm", x.arrears(), NONE);
        ruled(x, "blows 0;dues 0;");
        due("nothing owed", x.arrears(), NONE);
        x.by(NONE);
        due("changes nothing", x.is(0), 0);
        OwedToWinds y = ruled(played("wind 0 weight 1 due 5;village 0 purse 50;pay 0 to 0 of 5;"), "blows 0;dues due;");
        due("0 isn't above 0: till day 7 has passed", y.arrears(), 8);
        OwedToWinds z = played("wind 0 weight 1 due 0;wind 0 weight 1 due 5;village 0 purse 50;day 1;merge 1 to 0;pay 0 to 0 of 5;");
        ruled(z, "blows 0;dues 0;");
        due("a gone one counts not", z.arrears(), NONE);
        OwedToWinds g = ruled(played("wind 0 weight 1 due 1;"), "blows 0;");
        due("1 is above 0", g.arrears(), 1);
        OwedToWinds f = ruled(played("wind 0 weight 1 due 5;"), "comes day<59;blows 1;dues 1;");
        due("the 60th", f.arrears(), 60);
        f = ruled(played("wind 0 weight 1 due 5;"), "comes day<60;blows 1;dues 1;");
        due("the 61st", f.arrears(), NONE);
    }

    private static void p26() {
        OwedToWinds x = ruled(played("wind 0 weight 1 due 9;village 0 purse 7;village 0 purse 0;village 0 purse 60;village 0 purse 61;"),
                "blows 1;takes 1;catch 0;");
        due("in 7", x.broke(0), 7);
        due("it is", x.broke(1), 0);
        due("in 60", x.broke(2), 60);
        due("in 61", x.broke(3), NONE);
        due("others", x.broke(4), NONE);
        due("others", x.broke(-1), NONE);
        due("changes nothing", x.ofVillage(0, 1), 7);
        due("changes nothing", x.is(0), 0);
        ruled(x, "blows 1;takes 1;catch 1;");
        due("at a day's end", x.broke(0), NONE);
    }

    private static void p27() {
        OwedToWinds x = played("wind 0 weight 1 due 30;village 0 purse 7;");
        due("which is a text", x.whose(1), 0);
        tell(x, "takes 2+day/2;");
        tell(x, "takes 2;");
        tell(x, "takes 2;blows 1;");
        due("none of 3, 2, 2, 2: the lowest", x.whose(1), 1);
        due("9, 8 at day 2, 6, 6", x.whose(3), 2);
        due("n", x.whose(0), NONE);
        due("n", x.whose(61), NONE);
        due("its law rules yet", x.about(3), NONE);
        due("changes nothing", x.is(0), 0);
        x.by(3);
        x.whose(5);
        due("its law rules yet", x.about(3), 3);
        due("no text", new OwedToWinds().whose(1), NONE);
    }

    private static void p28() {
        OwedToWinds x = played("wind 0 weight 9 due 0;wind 0 weight 9 due 0;wind 0 weight 9 due 0;wind 0 weight 9 due 0;"
                + "wind 0 weight 9 due 0;wind 0 weight 8 due 0;");
        due("9", x.odds(0, 0, false), 9);
        due("of 53", x.odds(0, 0, true), 53);
        due("44 to 9", x.odds(0, 9, false), 618121839509504L);
        due("53 to 9", x.odds(0, 9, true), 3299763591802133L);
        due("8 of 53", x.odds(5, 0, false), 8);
        due("45", x.odds(5, 1, false), 45);
        due("53", x.odds(5, 1, true), 53);
        due("wind", x.odds(6, 1, true), NONE);
        due("wind", x.odds(-1, 1, true), NONE);
        due("n", x.odds(0, -1, true), NONE);
        due("n", x.odds(0, 10, true), NONE);
        x.merge(5, 0);
        due("17", x.odds(0, 0, false), 17);
        due("a gone one", x.odds(5, 0, false), 0);
        due("a gone one", x.odds(5, 0, true), 1);
        due("a gone one", x.odds(5, 3, false), 1);
        due("a gone one", x.odds(5, 3, true), 1);
        OwedToWinds u = played("wind 0 weight 1 due 0;wind 0 weight 1 due 0;");
        due("half", u.odds(1, 0, false), 1);
        due("half", u.odds(1, 0, true), 2);
        due("a quarter", u.odds(1, 2, true), 4);
        OwedToWinds y = played("wind 0 weight 2 due 0;");
        due("1", y.odds(0, 0, false), 1);
        due("of 1", y.odds(0, 0, true), 1);
        due("0", y.odds(0, 2, false), 0);
        due("of 1", y.odds(0, 2, true), 1);
        y.wind(0, 4, 0);
        due("4 of 6 to 3", y.odds(0, 3, false), 8);
        due("27", y.odds(0, 3, true), 27);
        due("2 of 6", y.odds(0, 0, false), 1);
        due("3", y.odds(0, 0, true), 3);
    }

    private static void p29() {
        // Day 0 is over: owed 30, 50, 0. By owed/10 forces 3, 5, 0; the next draws are of 1, 1, 1, 0, 0, ..
        OwedToWinds x = ruled(played("wind 0 weight 2 due 30;wind 0 weight 1 due 50;wind 0 weight 1 due 0;village 0 purse 50;day 1;"),
                "takes force;dues 0;");
        // 14637, 24931, 7473, 21480, 6350 mod 4: 1, 3, 1, 0, 2: winds 0, 2, 0, 0, 1.
        due("3 0 3 3 5", x.foretold(5), 14);
        due("nothing need be paid", x.least(5, 14, false), 0);
        due("the empty set", x.least(5, 14, true), 0);
        due("9 without the second, 5 without the first", x.least(5, 13, false), 30);
        due("the first", x.least(5, 13, true), 1);
        due("5", x.least(5, 5, false), 30);
        due("4", x.least(5, 4, false), 80);
        due("both", x.least(5, 4, true), 3);
        due("none", x.least(5, 0, true), 3);
        due("n", x.least(0, 0, true), NONE);
        due("n", x.least(61, 0, true), NONE);
        due("h", x.least(5, -1, true), NONE);
        due("h", x.least(5, 10000, false), NONE);
        due("h", x.least(5, 9999, false), 0);
        due("changes nothing", x.ofWind(0, 3), 30);
        due("changes nothing", x.is(0), 1);
        ruled(x, "takes 1;blows 1;");
        due("none", x.least(5, 4, false), NONE);
        due("none", x.least(5, 4, true), NONE);
        OwedToWinds w = ruled(played("wind 0 weight 1 due 1;village 0 purse 9;day 1;"), "takes debt 0;blows 1;");
        due("a penny", w.least(1, 0, false), 1);
        // Of like ones the lowest set; those that aren't owed anything, or are gone, aren't in it.
        OwedToWinds y = ruled(played("wind 0 weight 1 due 0;wind 0 weight 1 due 20;wind 0 weight 1 due 20;wind 0 weight 1 due 20;"
                + "village 0 purse 99;day 1;merge 3 to 0;pay 0 to 0 of 20;"), "takes debt 1+debt 2-20;blows 1;dues 0;");
        due("20 either way", y.least(1, 0, false), 20);
        due("the lower one", y.least(1, 0, true), 2);
        ruled(y, "takes debt 1/10+debt 2+debt 3;blows 1;dues 0;");
        due("gone ones can't be paid", y.least(1, 20, false), 40);
        due("gone ones can't be paid", y.least(1, 20, true), 6);
        due("gone ones can't be paid", y.least(1, 19, true), NONE);
    }

    private static void p30() {
        OwedToWinds x = played("wind 0 weight 1 due 0;village 1 purse 0;village 3 purse 0;village 9 purse 0;village 0 purse 0;"
                + "village 2 purse 0;village 4 purse 0;");
        // Force 6 takes 5, 3, 0, 6, 4, 2.
        due("alone", x.share(0, 6, 1, 0, false), 5);
        due("alone", x.share(0, 6, 1, 0, true), 1);
        due("5 and 3: 3.5", x.share(0, 6, 3, 0, false), 7);
        due("5 and 3: 3.5", x.share(0, 6, 3, 0, true), 2);
        due("5 and 3: 1.5", x.share(0, 6, 3, 1, false), 3);
        due("5 and 3: 1.5", x.share(0, 6, 3, 1, true), 2);
        due("0", x.share(0, 6, 7, 2, false), 0);
        due("0 by 1", x.share(0, 6, 7, 2, true), 1);
        // Of 5, 3, 0, 6, 4: 3/4 + 1/3 + 1/2 + 1 of the 6; 3/4 + 1/3 + 1/2 of the 5.
        due("31 of 12", x.share(0, 6, 31, 3, false), 31);
        due("31 of 12", x.share(0, 6, 31, 3, true), 12);
        due("19 of 12", x.share(0, 6, 31, 0, false), 19);
        due("13 of 12", x.share(0, 6, 31, 4, false), 13);
        due("3 of 4", x.share(0, 6, 31, 1, true), 4);
        due("six", x.share(0, 6, 63, 0, false), NONE);
        due("five of the later ones", x.share(0, 6, 62, 1, false), 5);
        due("2 by 4 and 1 by 3", x.share(0, 6, 62, 1, true), 6);
        due("none", x.share(0, 6, 0, 0, false), NONE);
        due("64", x.share(0, 6, 65, 0, false), NONE);
        due("below", x.share(0, 6, -1, 0, false), NONE);
        due("below", x.share(0, 6, LOW + 1, 0, false), NONE);
        due("not of the set", x.share(0, 6, 2, 0, false), NONE);
        due("village", x.share(0, 6, 1, -1, false), NONE);
        due("village", x.share(0, 6, 1, 6, false), NONE);
        due("village", x.share(0, 6, 1, 32, false), NONE);
        due("wind", x.share(1, 6, 1, 0, false), NONE);
        due("wind", x.share(-1, 6, 1, 0, false), NONE);
        due("force", x.share(0, 0, 1, 0, false), NONE);
        due("force", x.share(0, 10, 1, 0, false), NONE);
        OwedToWinds y = played("wind 0 weight 1 due 0;village 1 purse 0;");
        due("one that isn't told", y.share(0, 6, 3, 0, false), NONE);
        due("one that is", y.share(0, 6, 1, 0, false), 5);
    }

    private static void p31() {
        // Quarter 2: 1 and the force a day. 0 - 1 of 7, 1 - 2 of 1, 0 - 2 of 12, 2 - 3 of 99.
        OwedToWinds x = ruled(played("wind 2 weight 1 due 0;village 0 purse 0;village 0 purse 0;village 0 purse 0;village 0 purse 0;"
                + "village 0 purse 0;way 0 to 1 of 7;way 1 to 2 of 1;way 0 to 2 of 12;way 2 to 3 of 99;"), "blows 3-day;");
        // Speeds 4, 3, 2, 1, 1, ..
        due("4 + 3 is 7", x.voyage(0, 1, false), 2);
        due("from it", x.voyage(0, 1, true), 0);
        due("a day more by 1; 12 by 0: 6 days", x.voyage(0, 2, false), 3);
        due("by 1", x.voyage(0, 2, true), 1);
        due("99 more", x.voyage(0, 3, false), -2);
        due("99 more", x.voyage(0, 3, true), -2);
        due("no way", x.voyage(0, 4, false), -2);
        due("there", x.voyage(4, 4, false), 0);
        due("there", x.voyage(4, 4, true), NONE);
        due("others", x.voyage(5, 0, false), -2);
        due("others", x.voyage(0, 5, false), -2);
        due("others", x.voyage(-1, 0, false), -2);
        due("others", x.voyage(5, 5, true), -2);
        due("others", x.voyage(0, 6, false), -2);
        due("others", x.voyage(6, 0, true), -2);
        due("others", x.voyage(0, -1, false), -2);
        due("others", x.voyage(HIGH, LOW, false), -2);
        due("back: 1 in a day, then 7 by 3 + 2 + 1 + 1", x.voyage(2, 0, false), 5);
        due("by 1", x.voyage(2, 0, true), 1);
        due("changes nothing", x.is(0), 0);
        x.way(0, 2, 9);
        due("both in 3 days: the lower", x.voyage(0, 2, true), 0);
        x.way(0, 2, 10);
        due("in 4 days: not", x.voyage(0, 2, true), 1);
        // Quarter 1: half of it, 1 at least.
        OwedToWinds y = ruled(played("wind 1 weight 1 due 0;village 0 purse 0;village 0 purse 0;way 0 to 1 of 60;"), "blows 2;");
        due("half of 3, cut", y.voyage(0, 1, false), 60);
        y.way(0, 1, 61);
        due("60 at most", y.voyage(0, 1, false), -2);
        ruled(y, "blows 9-day*9;");
        due("5, then calm: 1 each", y.voyage(0, 1, false), 57);
        ruled(y, "blows 1;");
        y.way(0, 1, 6);
        due("1 at least", y.voyage(0, 1, false), 6);
        OwedToWinds q = ruled(played("wind 2 weight 1 due 0;village 0 purse 0;village 0 purse 0;way 0 to 1 of 60;"), "blows 2;");
        due("3", q.voyage(0, 1, false), 20);
        for (int i = 0; i < 166; i++) q.day(60);
        q.day(29);
        due("ten can pass", q.voyage(0, 1, false), -2);
        q.way(0, 1, 30);
        due("ten can pass", q.voyage(1, 0, false), 10);
    }

    private static void p32() {
        OwedToWinds x = played("village 0 purse 0;");
        due("village", x.took(1, 0), -2);
        due("village", x.took(-2, 0), -2);
        due("what", x.took(0, -1), -2);
        due("what", x.took(0, 100), -2);
        due("none", x.about(5), 0);
        due("0", x.took(0, 0), 1);
        due("99", x.took(0, 99), 2);
        for (int i = 3; i <= 8; i++) due("took", x.took(0, 1), i);
        due("the ninth", x.took(0, 1), -2);
        due("eight", x.about(5), 8);
        due("none any more", x.took(NONE, 0), 0);
        due("none", x.about(5), 0);
    }

    private static void p33() {
        OwedToWinds x = ruled(played("wind 0 weight 1 due 0;wind 1 weight 1 due 0;wind 2 weight 1 due 0;village 2 purse 0;village 5 purse 0;"),
                "takes force*(quarter+1)-roof;");
        due("all without", x.whoseWind(), 7);
        x.took(0, 7);
        due("9, none of 9 by 2, 3 by 3", x.whoseWind(), 5);
        x.took(1, 4);
        due("9 - 5 for both", x.whoseWind(), 5);
        x.merge(2, 0);
        due("gone ones too", x.whoseWind(), 5);
        x.took(1, 3);
        due("none", x.whoseWind(), 0);
        x.took(NONE, 0);
        x.took(0, 25);
        due("27 by 9 times 3", x.whoseWind(), 4);
        due("no winds", new OwedToWinds().whoseWind(), 0);
    }

    private static void p34() {
        OwedToWinds x = played("wind 0 weight 1 due 0;village 2 purse 0;village 5 purse 0;");
        due("all", x.strengths(0), 1022);
        x.took(1, 0);
        due("1 to 5", x.strengths(0), 62);
        x.took(0, 3);
        due("5", x.strengths(0), 32);
        due("others", x.strengths(1), NONE);
        due("others", x.strengths(-1), NONE);
        x.took(0, 9);
        due("none", x.strengths(0), 0);
    }

    private static void p35() {
        due("nothing at all", new OwedToWinds().vane(), NONE);
        OwedToWinds x = played("village 9 purse 0;village 5 purse 0;village 4 purse 0;village 4 purse 0;village 8 purse 0;");
        due("no wind: nothing fits", x.vane(), NONE);
        x.wind(0, 1, 0);
        due("0, 1 .. 5: the lowest of two", x.vane(), 2);
        x.took(2, 0);
        due("1 to 4: all alike: the lowest", x.vane(), 0);
        x.took(NONE, 0);
        x.took(1, 0);
        due("1 to 5: 0, 1 of the third", x.vane(), 2);
        x.took(2, 1);
        x.took(0, 0);
        due("5: all alike", x.vane(), 3);
        x.took(3, 1);
        due("one left", x.vane(), 4);
        x.took(4, 0);
        due("no such village", x.vane(), NONE);
        x.took(NONE, 0);
        x.took(2, 50);
        due("nothing fits", x.vane(), NONE);
        // Pairs of two winds that answer alike count once.
        OwedToWinds y = ruled(played("wind 0 weight 1 due 0;wind 1 weight 1 due 0;village 1 purse 0;village 2 purse 0;"),
                "takes force*(2-roof)*10+quarter*(roof-1)+quarter*(2-roof);");
        due("18 of the first, 2 of the second", y.vane(), 0);
        y.took(0, 21);
        due("the other", y.vane(), 1);
        y.took(NONE, 0);
        y.village(9, 0);
        ruled(y, "takes roof/9*(1/force);");
        due("1 by force 1, else 0", y.vane(), 2);
        ruled(y, "takes roof/9*(force/9)*99;");
        due("99 by force 9, else 0", y.vane(), 2);
    }

    private static void p36() {
        OwedToWinds x = new OwedToWinds();
        due("force", x.sail(10), -2);
        due("force", x.sail(-2), -2);
        due("none", x.sail(NONE), 0);
        due("0", x.sail(0), 1);
        for (int i = 2; i <= 5; i++) due("9", x.sail(9), i);
        due("the sixth", x.sail(9), -2);
        due("five", x.about(6), 5);
        due("none any more", x.sail(NONE), 0);
        due("none", x.about(6), 0);
    }

    private static void p37() {
        OwedToWinds x = played("wind 0 weight 1 due 0;wind 0 weight 1 due 0;");
        due("without forces", x.sails(0, 25), NONE);
        x.sail(3);
        due("one row", x.sails(0, 35), 1);
        due("no row", x.sails(0, 45), 0);
        due("wind", x.sails(2, 35), NONE);
        due("wind", x.sails(-1, 35), NONE);
        due("o", x.sails(0, -1), NONE);
        due("o", x.sails(0, 1000), NONE);
        due("999", x.sails(0, 999), 0);
        x.sail(3);
        due("35, 35", x.sails(0, 35), 1);
        x.sail(1);
        due("20 then", x.sails(0, 35), 1);
        due("39, 39: 20 or 29 to 10: 20", x.sails(0, 39), 1);
        x.sail(0);
        due("15: 10, 20, 30", x.sails(0, 35), 3);
        x.sail(0);
        due("four ways each", x.sails(0, 35), 12);
        due("owed as it was", x.ofWind(0, 3), 0);
        // Its force is that of the day ahead; its own debt is what it is owed then; another's as now.
        OwedToWinds y = ruled(played("wind 0 weight 1 due 40;wind 0 weight 1 due 20;day 1;"), "blows force+debt 0/10+debt 1/20;");
        due("the second blew", y.ofWind(1, 4), 2);
        y.sail(4);
        y.sail(8);
        due("0 + 3 + 1, 4 + 3 + 1", y.sails(0, 30), 1);
        y.sail(9);
        due("9 at most: any", y.sails(0, 30), 4);
        due("2 + 4 + 0, not 4", y.sails(1, 0), 0);
        y.sail(NONE);
        y.sail(6);
        due("2 + 4 + 0", y.sails(1, 0), 1);
        y.sail(9);
        due("6 + 4 less 0, 0, 1, 1: 9 at most", y.sails(1, 0), 4);
        y.sail(NONE);
        y.sail(7);
        y.sail(9);
        due("2 + 4 + 1, 7 + 4 + 1: any", y.sails(1, 20), 4);
        due("force as it was", y.ofWind(1, 4), 2);
        due("owed as it was", y.ofWind(1, 3), 20);
        OwedToWinds z = ruled(played("wind 0 weight 1 due 0;"), "blows 7;");
        for (int i = 0; i < 5; i++) z.sail(7);
        due("all of them", z.sails(0, 0), 256);
    }

    private static void p38() {
        OwedToWinds x = played("wind 0 weight 1 due 0;");
        due("without forces", x.sure(0, 25, 0), NONE);
        x.sail(3);
        due("no payment yet", x.sure(0, 35, 0), NONE);
        x.sail(3);
        x.sail(1);
        x.sail(0);
        due("0", x.sure(0, 35, 0), 0);
        due("20", x.sure(0, 35, 1), 20);
        due("10, 20, 30", x.sure(0, 35, 2), NONE);
        due("no such", x.sure(0, 35, 3), NONE);
        due("no such", x.sure(0, 35, -1), NONE);
        due("no rows", x.sure(0, 95, 0), NONE);
        due("wind", x.sure(1, 35, 0), NONE);
        due("wind", x.sure(-1, 35, 0), NONE);
        due("o", x.sure(0, -1, 0), NONE);
        due("o", x.sure(0, 1000, 0), NONE);
        x.sail(NONE);
        x.sail(4);
        x.sail(1);
        due("30", x.sure(0, 40, 0), 30);
        x.sail(NONE);
        x.sail(9);
        x.sail(8);
        due("10", x.sure(0, 95, 0), 10);
        due("20 or 30 of 109", x.sure(0, 109, 0), 20);
        ruled(x, "blows debt 0/111;");
        due("999 ahead, 30 less", x.sure(0, 999, 0), NONE);
        due("999 ahead, 10, 20 or 30 less", x.sails(0, 999), 3);
        x.sail(NONE);
        x.sail(0);
        x.sail(1);
        ruled(x, "blows 0-debt 0/30;");
        due("0 ahead, 30 less", x.sure(0, 0, 0), 30);
        OwedToWinds y = played("wind 0 weight 1 due 0;");
        y.sail(5);
        y.sail(5);
        due("0 alone", y.sure(0, 50, 0), 0);
        ruled(y, "blows debt 0-994;");
        due("999", y.sure(0, 999, 0), 0);
        ruled(y, "blows debt 0-995;");
        due("o", y.sure(0, 1000, 0), NONE);
        ruled(y, "blows 4-debt 0*(debt 0+1)*(debt 0+1);");
        due("o", y.sure(0, -1, 0), NONE);
        y.by(NONE);
        due("no such", y.sure(0, 50, 1), NONE);
        due("no such", y.sure(0, 50, -1), NONE);
        due("no such", y.sure(0, 50, LOW), NONE);
    }

    private static void p39() {
        OwedToWinds x = new OwedToWinds();
        due("worth", x.kind(0), -2);
        due("worth", x.kind(100), -2);
        due("worth", x.kind(-2), -2);
        due("none", x.kind(NONE), 0);
        due("1", x.kind(1), 1);
        for (int i = 2; i <= 5; i++) due("99", x.kind(99), i);
        due("the sixth", x.kind(1), -2);
        due("five", x.about(7), 5);
        due("none any more", x.kind(NONE), 0);
        due("none", x.about(7), 0);
    }

    private static void p40() {
        OwedToWinds x = new OwedToWinds();
        due("nothing of no kind", x.inKind(0, NONE), 0);
        due("something of no kind", x.inKind(1, NONE), NONE);
        due("no such kind", x.inKind(0, 0), NONE);
        x.kind(4);
        x.kind(3);
        x.kind(1);
        due("6 is 3 + 3", x.inKind(6, NONE), 2);
        due("no 4", x.inKind(6, 0), 0);
        due("two 3", x.inKind(6, 1), 2);
        due("no 1", x.inKind(6, 2), 0);
        due("999", x.inKind(999, NONE), 250);
        due("249 of 4", x.inKind(999, 0), 249);
        due("1 of 3", x.inKind(999, 1), 1);
        due("nothing", x.inKind(0, NONE), 0);
        due("nothing", x.inKind(0, 2), 0);
        due("n", x.inKind(-1, NONE), NONE);
        due("n", x.inKind(1000, NONE), NONE);
        due("kind", x.inKind(1, 3), NONE);
        due("kind", x.inKind(1, -2), NONE);
        x.kind(NONE);
        x.kind(2);
        x.kind(5);
        x.kind(4);
        x.kind(3);
        due("8: 5 + 3 or 4 + 4", x.inKind(8, 1), 1);
        due("8: one 3", x.inKind(8, 3), 1);
        due("7: 2 + 5 first", x.inKind(7, 0), 1);
        due("1 isn't to be had", x.inKind(1, NONE), NONE);
        due("1 isn't to be had", x.inKind(1, 0), NONE);
        x.kind(NONE);
        x.kind(7);
        x.kind(7);
        due("most of the first", x.inKind(21, 0), 3);
        due("none of the second", x.inKind(21, 1), 0);
        due("22", x.inKind(22, NONE), NONE);
    }

    private static void p41() {
        OwedToWinds x = ruled(played("wind 0 weight 1 due 0;"), "comes day<3 or day>4 and day<9 or day>9;blows 1;");
        due("days 3, 4, 9", x.calms(60, false), 3);
        due("3, 4", x.calms(60, true), 2);
        due("3", x.calms(4, false), 1);
        due("3", x.calms(4, true), 1);
        due("none", x.calms(3, true), 0);
        due("n", x.calms(0, false), NONE);
        due("n", x.calms(61, false), NONE);
        due("changes nothing", x.is(0), 0);
        due("no winds: all", new OwedToWinds().calms(60, true), 60);
        for (int i = 0; i < 166; i++) x.day(60);
        x.day(37);
        ruled(x, "blows 0;");
        due("two can pass", x.calms(60, false), 2);
    }

    private static void p42() {
        OwedToWinds x = new OwedToWinds();
        due("none", x.strongest(), NONE);
        x.wind(0, 1, 20);
        x.wind(1, 1, 30);
        x.wind(2, 1, 30);
        due("0 each: the lowest", x.strongest(), 0);
        x.day(1);
        due("2, 3, 3", x.strongest(), 1);
        ruled(x, "comes quarter#1;");
        due("it doesn't come", x.strongest(), 2);
        ruled(x, "comes quarter>5;");
        due("none comes: 0 each", x.strongest(), 0);
        x.by(NONE);
        OwedToWinds y = ruled(played("wind 0 weight 1 due 0;wind 1 weight 1 due 0;"), "comes quarter=0;blows quarter*9;");
        due("0 and 0: the lowest", y.strongest(), 0);
        x.merge(1, 0);
        due("5, gone, 3", x.strongest(), 0);
        x.merge(0, 2);
        due("gone, gone", x.strongest(), 2);
        due("changes nothing", x.ofWind(2, 4), 3);
    }

    private static void p43() {
        OwedToWinds x = new OwedToWinds();
        due("none", x.richest(), NONE);
        x.village(0, 0);
        due("0", x.richest(), 0);
        x.village(0, 5);
        x.village(0, 5);
        due("the lowest of two", x.richest(), 1);
        x.village(0, 6);
        due("6", x.richest(), 3);
        x.wind(0, 1, 0);
        x.pay(3, 0, 2);
        due("paid", x.richest(), 1);
    }

    private static void p44() {
        OwedToWinds x = ruled(played("wind 0 weight 1 due 0;wind 0 weight 1 due 0;"), "blows day;");
        due("none yet", x.often(NONE), 0);
        due("none yet", x.often(1), 0);
        x.day(9);
        due("calm", x.often(NONE), 1);
        due("the first", x.often(0), 4);
        due("the second", x.often(1), 4);
        due("others", x.often(2), -2);
        due("others", x.often(-2), -2);
        x.merge(0, 1);
        due("gone", x.often(0), 4);
        x.day(30);
        due("thirty days later", x.often(0), 0);
        due("thirty days later", x.often(1), 30);
    }

    private static void p45() {
        OwedToWinds x = ruled(played("wind 0 weight 1 due 0;village 0 purse 0;"), "blows 9;takes day-day/3*3;");
        due("none", x.worstDay(), NONE);
        x.day(1);
        due("nothing taken", x.worstDay(), 0);
        x.day(9);
        due("0, 1, 2, 0, 1, 2, ..: the earliest", x.worstDay(), 2);
        x.day(23);
        due("still in the book", x.book(0, 0), 3);
        due("the earliest in it", x.worstDay(), 5);
    }

    private static void p46() {
        OwedToWinds x = played("wind 0 weight 1 due 30;village 0 purse 50;village 0 purse 50;way 0 to 1 of 3;day 2;");
        ruled(x, "dues 3;");
        x.took(0, 1);
        x.sail(1);
        x.kind(1);
        due("image", x.image(), 2);
        due("nothing is done by it", x.is(0), 2);
        x.day(3);
        x.back();
        due("image is later", x.is(0), 2);
        x.day(1);
        due("image anew", x.image(), 3);
        x.day(1);
        x.back();
        due("the later one", x.is(0), 3);
        due("of all steps", x.about(4), 3);
    }

    private static void p47() {
        OwedToWinds x = played("wind 0 weight 1 due 30;village 0 purse 50;village 0 purse 50;way 0 to 1 of 60;day 2;");
        ruled(x, "blows 0;dues 3;");
        x.took(0, 7);
        x.took(1, 7);
        x.sail(0);
        x.kind(1);
        x.image();
        for (int round = 0; round < 2; round++) {
            x.wind(1, 2, 3);
            x.village(0, 1);
            x.way(0, 1, 1);
            x.merge(0, 1);
            x.pay(0, 1, 5);
            tell(x, "blows 9;");
            x.by(2);
            x.took(NONE, 0);
            x.took(1, 99);
            x.sail(NONE);
            x.sail(4);
            x.sail(4);
            x.kind(NONE);
            x.kind(7);
            x.kind(8);
            x.day(35);
            tell(x, "dues 7 7;");
            x.feed(1, 2, 3, 4, 5);
            due("back", x.back(), 2);
            int[] about = {1, 2, 2, 1, 2, 2, 1, 1, 20};
            for (int what = 0; what <= 8; what++) due("about " + what, x.about(what), about[what]);
            due("the latest fault stays", x.fault(0), 1);
            due("its place stays", x.fault(1), 7);
            int[] wind = {0, 1, 30, 30, 3, 0, 0, 1, 3};
            for (int what = 0; what <= 8; what++) due("of wind " + what, x.ofWind(0, what), wind[what]);
            due("no second wind", x.ofWind(1, 0), -1000);
            due("purse", x.ofVillage(0, 1), 50);
            due("taken", x.ofVillage(0, 2), 6);
            due("x", x.is(1), 24931);
            due("pages", x.book(NONE, 0), 2);
            due("way", x.voyage(0, 1, false), 60);
            due("took 7 of either", x.strengths(0), 1 << 7);
            due("kind", x.inKind(3, NONE), 3);
            due("sail", x.sails(0, 0), 1);
            x.end(0);
            if (round == 0) {
                due("steps too", x.undo(), 1);
                due("steps too", x.undo(), 0);
                due("day", x.is(0), 0);
                due("purse", x.ofVillage(0, 1), 50);
                due("it stays", x.back(), 2);
            }
        }
        due("its steps are as they were", x.undo(), 1);
        due("its steps are as they were", x.is(1), 14637);
        due("told behind it, in its place", tell(x, "dues 9;"), 2);
        due("the first text is as it was", x.by(1) ? x.ofWind(0, 8) : 0, 3);
        due("the third is new", x.by(2) ? x.ofWind(0, 8) : 0, 9);
    }

    private static void p48() {
        OwedToWinds x = played("wind 0 weight 1 due 0;wind 0 weight 1 due 0;village 0 purse 3;village 0 purse 3;village 0 purse 3;day 4;");
        for (int i = 0; i < 3; i++) tell(x, "dues 1;");
        x.by(2);
        for (int i = 0; i < 5; i++) x.took(0, 0);
        for (int i = 0; i < 3; i++) x.sail(0);
        x.kind(1);
        x.feed(0, 0, 0, 0, 0);
        x.end(17);
        int[] about = {2, 3, 4, 2, 4, 5, 3, 1, 17};
        for (int what = 0; what <= 8; what++) due("about " + what, x.about(what), about[what]);
        due("others", x.about(9), -2);
        due("others", x.about(-1), -2);
    }

    public static void main(String[] args) throws ReflectiveOperationException {
        for (int promise = 1; promise <= 48; promise++) {
            of("promise " + promise);
            PromisesTest.class.getDeclaredMethod("p" + promise).invoke(null);
        }
        end();
    }
}
