/**
 * One test for each sentence on the tape, the texts, their faults, their laws and how they are played that names
 * an edge: the tape empty and full, numbers just below and just above each bound, the ninth that is open, the
 * 25th clause, of two faults the first, of one token the least.
 */
public final class TextsEdgesTest extends Checks {
    private static final String[] LAWS = {"blows", "takes", "catch", "dues"};

    // ---- the tape ----------------------------------------------------------------------------------------
    private static void tape() {
        edge("5: Twenty bytes come, the highest of a first", () -> {
            OwedToWinds x = new OwedToWinds();
            // comes 1 < 2 ; day 1;
            due("feed", x.feed(0x636f6d65, 0x73203120, 0x3c203220, 0x3b206461, 0x7920313b), 20);
            due("text", x.text(), 0);
            due("all of it is read", x.fault(0), 0);
            due("its second clause is a day", x.played(0), NONE);
            due("day", x.is(0), 1);
        });
        edge("5: each byte has its place", () -> {
            for (int i = 0; i < 20; i++) {
                int[] ints = {0x20202020, 0x20202020, 0x20202020, 0x20202020, 0x20202020};
                ints[i / 4] ^= (0x20 ^ '!') << (24 - 8 * (i % 4));
                OwedToWinds x = new OwedToWinds();
                x.feed(ints[0], ints[1], ints[2], ints[3], ints[4]);
                x.text();
                due("a strange byte at " + i, x.fault(1), i);
            }
        });
        edge("5: bytes above 127 are bytes too", () -> {
            OwedToWinds x = new OwedToWinds();
            due("feed", x.feed(0x20202020, 0x202020ff, -1, LOW, HIGH), 20);
            due("text", x.text(), NONE);
            due("fault", x.fault(0), 1);
            due("place", x.fault(1), 7);
        });
        edge("5: behind the tape: how many it has", () -> {
            OwedToWinds x = new OwedToWinds();
            for (int i = 1; i <= 15; i++) due("feed " + i, x.feed(0, 0, 0, 0, 0), 20 * i);
        });
        edge("5: NONE if there would be more than 300: 300 are there", () -> {
            OwedToWinds x = new OwedToWinds();
            for (int i = 0; i < 15; i++) x.feed(0x20202020, 0x20202020, 0x20202020, 0x20202020, 0x20202020);
            due("feed", x.feed(-1, -1, -1, -1, -1), NONE);
            due("none come", x.about(8), 300);
            due("none come", x.end(301), NONE);
            due("it is as it was", x.text(), 0);
        });
        edge("5: NONE, and none come, if there would be 301", () -> {
            OwedToWinds x = new OwedToWinds();
            for (int i = 0; i < 15; i++) x.feed(0x20202020, 0x20202020, 0x20202020, 0x20202020, 0x20202020);
            due("end", x.end(281), 281);
            due("feed", x.feed(-1, -1, -1, -1, -1), NONE);
            due("none come", x.about(8), 281);
            due("none come", x.end(282), NONE);
            due("it is as it was", x.text(), 0);
        });
        edge("5: if there would be just 300, they come", () -> {
            OwedToWinds x = new OwedToWinds();
            for (int i = 0; i < 14; i++) x.feed(0x20202020, 0x20202020, 0x20202020, 0x20202020, 0x20202020);
            due("feed", x.feed(0x20202020, 0x20202020, 0x20202020, 0x20202020, 0x20202021), 300);
            x.text();
            due("the last byte is the 300th", x.fault(1), 299);
        });
        edge("6: The tape has its first n bytes alone: n", () -> {
            OwedToWinds x = new OwedToWinds();
            put(x, "dues 7;!!!!!");
            due("end", x.end(7), 7);
            due("bytes", x.about(8), 7);
            due("the others are gone", x.end(8), NONE);
            due("text", x.text(), 0);
        });
        edge("6: what is cut off isn't read, in the midst of a TOKEN too", () -> {
            cutOff("dues 12;", 6, 1, 6);
            cutOff("daydues 1;", 3, 1, 3);
            cutOff("comes 1<=2;", 8, 1, 8);
            cutOff("dues dayday;", 6, 1, 5);
            cutOff("dues 10000;", 9, 1, 9);
            cutOff("day 1;day 1", 6, 0, NONE);
            cutOff("day 1;!", 6, 0, NONE);
            cutOff("day 1;!", 0, 0, NONE);
        });
        edge("6: what comes then comes behind those", () -> {
            OwedToWinds x = new OwedToWinds();
            put(x, "dues !!!!!");
            x.end(5);
            due("feed", x.feed(0x373b2020, 0x20202020, 0x20202020, 0x20202020, 0x20202020), 25);
            due("text", x.text(), 0);
        });
        edge("6: as many as it has; none", () -> {
            OwedToWinds x = new OwedToWinds();
            due("end(0) of none", x.end(0), 0);
            x.feed(0, 0, 0, 0, 0);
            due("end(20) of 20", x.end(20), 20);
            due("bytes", x.about(8), 20);
            due("end(0) of 20", x.end(0), 0);
            due("bytes", x.about(8), 0);
            for (int i = 0; i < 15; i++) x.feed(0, 0, 0, 0, 0);
            due("end(300) of 300", x.end(300), 300);
        });
        edge("6: NONE, and nothing is done, if it has not so many", () -> {
            due("end(1) of none", new OwedToWinds().end(1), NONE);
            idle("one more", NONE, x -> x.end(x.about(8) + 1));
            idle("end(300)", NONE, x -> x.end(300));
            idle("end(HIGH)", NONE, x -> x.end(HIGH));
        });
        edge("6: NONE, and nothing is done, if n is below 0", () -> {
            idle("end(-1)", NONE, x -> x.end(-1));
            idle("end(LOW)", NONE, x -> x.end(LOW));
        });
    }

    private static void cutOff(String text, int end, int fault, int place) {
        OwedToWinds x = new OwedToWinds();
        put(x, text);
        x.end(end);
        due("text " + text + " cut off at " + end, x.text(), fault == 0 ? 0 : NONE);
        due("fault of " + text + " cut off at " + end, x.fault(0), fault);
        due("place of " + text + " cut off at " + end, x.fault(1), place);
    }

    private static void texts() {
        edge("7: TEXTS 0 .. 3: its number", () -> {
            OwedToWinds x = new OwedToWinds();
            for (int i = 0; i < 4; i++) due("text " + i, tell(x, "dues " + i + ";"), i);
            due("texts", x.about(2), 4);
        });
        edge("7: the tape is empty then", () -> {
            OwedToWinds x = new OwedToWinds();
            tell(x, "dues 1;");
            due("bytes", x.about(8), 0);
            due("end(1)", x.end(1), NONE);
        });
        edge("7: an empty tape is a TEXT too", () -> {
            OwedToWinds x = new OwedToWinds();
            due("text", x.text(), 0);
            due("fault", x.fault(0), 0);
            due("place", x.fault(1), NONE);
            due("once more", x.text(), 1);
            due("played", x.played(0), NONE);
        });
        edge("7: a full tape is a TEXT too", () -> {
            OwedToWinds x = new OwedToWinds();
            String text = "dues 1" + times(146, "+1") + " ;";
            due("its bytes", text.length(), 300);
            due("text", tell(x, text), 0);
        });
        edge("7: NONE: it has a FAULT, and is no TEXT", () -> {
            OwedToWinds x = new OwedToWinds();
            due("text", tell(x, "dues 1"), NONE);
            due("texts", x.about(2), 0);
            no("by", x.by(0));
            due("bytes", x.about(8), 0);
            due("the next one's number", tell(x, "dues 1;"), 0);
        });
        edge("7: of one with a FAULT nothing is left to the next", () -> {
            OwedToWinds x = new OwedToWinds();
            x.wind(0, 1, 50);
            tell(x, "dues ((((((((1+(");
            due("fault", x.fault(0), 3);
            tell(x, "comes " + times(8, "not ") + "-");
            due("fault", x.fault(0), 3);
            for (int i = 0; i < 3; i++) tell(x, "dues 1" + times(147, "+1"));
            due("fault", x.fault(0), 1);
            tell(x, "comes 1=2;blows 7;dues -1-1");
            tell(x, "day 1;day 1;day 1;day 1");
            due("the next one", tell(x, "dues " + times(8, "(") + "5" + times(8, ")") + ";day 1;"), 0);
            due("played", x.played(0), NONE);
            due("its one day", x.is(0), 1);
            yes("by", x.by(0));
            due("its dues", x.ofWind(0, 8), 5);
            due("no law on coming", x.ofWind(0, 7), 1);
            due("no law on blowing", x.ofWind(0, 6), 5);
            tell(x, "dues -1");
            due("the one after", tell(x, "dues 6;"), 1);
            yes("by", x.by(1));
            due("its dues", x.ofWind(0, 8), 6);
        });
        edge("7: NONE: there are 4 (the tape stays)", () -> {
            OwedToWinds x = new OwedToWinds();
            for (int i = 0; i < 4; i++) tell(x, "dues " + i + ";");
            put(x, "dues 9;");
            due("the fifth", x.text(), NONE);
            due("bytes", x.about(8), 7);
            due("texts", x.about(2), 4);
            due("it isn't read", x.fault(0), 0);
            x.back();
            due("behind the image, that none were in", x.text(), 0);
        });
        edge("7: NONE: there are 4 (the tape stays), with a FAULT in it too", () -> {
            OwedToWinds x = new OwedToWinds();
            for (int i = 0; i < 4; i++) tell(x, "dues " + i + ";");
            put(x, "!");
            due("the fifth", x.text(), NONE);
            due("bytes", x.about(8), 1);
            due("it isn't read", x.fault(0), 0);
            due("it isn't read", x.fault(1), NONE);
        });
        edge("8: NONE ahead of any", () -> {
            due("fault(0)", new OwedToWinds().fault(0), NONE);
            due("fault(1)", new OwedToWinds().fault(1), NONE);
        });
        edge("8: NONE for others", () -> {
            idle("fault(2)", NONE, x -> x.fault(2));
            idle("fault(-1)", NONE, x -> x.fault(-1));
            idle("fault(HIGH)", NONE, x -> x.fault(HIGH));
        });
        edge("8: Of the latest text that was read", () -> {
            OwedToWinds x = new OwedToWinds();
            tell(x, "dues 10000;");
            due("the first", x.fault(0) * 100 + x.fault(1), 205);
            tell(x, " dues roof;");
            due("the second", x.fault(0) * 100 + x.fault(1), 506);
            tell(x, "dues 1;");
            due("the third, 0 without", x.fault(0), 0);
            due("the third, NONE without", x.fault(1), NONE);
            tell(x, "!");
            due("the fourth", x.fault(0) * 100 + x.fault(1), 100);
        });
        edge("9: THE TEXT (told): true", () -> {
            OwedToWinds x = new OwedToWinds();
            for (int i = 0; i < 4; i++) tell(x, "dues " + (i + 1) + ";");
            x.wind(0, 1, 50);
            for (int i = 0; i < 4; i++) {
                yes("by(" + i + ")", x.by(i));
                due("THE TEXT", x.about(3), i);
                due("it rules", x.ofWind(0, 8), i + 1);
            }
        });
        edge("9: NONE: none", () -> {
            OwedToWinds x = under("dues 7;", "wind 0 weight 1 due 50;");
            yes("by(NONE)", x.by(NONE));
            due("THE TEXT", x.about(3), NONE);
            due("none rules", x.ofWind(0, 8), 50);
            yes("none, as there was", x.by(NONE));
        });
        edge("9: False for others", () -> {
            no("by(0) of none told", new OwedToWinds().by(0));
            idle("behind the last told", 0, x -> x.by(x.about(2)) ? 1 : 0);
            idle("by(-2)", 0, x -> x.by(-2) ? 1 : 0);
            idle("by(HIGH)", 0, x -> x.by(HIGH) ? 1 : 0);
            idle("by(LOW)", 0, x -> x.by(LOW) ? 1 : 0);
        });
    }

    // ---- tokens ------------------------------------------------------------------------------------------
    private static void tokens() {
        edge("II: blanks (32, 10) aside", () -> {
            sound(" dues\n1 \n ; ");
            sound("\n");
            for (int sign : new int[] {0, 1, 8, 9, 11, 12, 13, 31, 33, 127, 128, 133, 160, 255}) {
                fault("dues 1" + (char) sign + ";", 1, 6);
                fault("" + (char) sign, 1, 0);
            }
        });
        edge("II: letters a .. z, A .. Z one behind the other (one TOKEN)", () -> {
            for (String letter : new String[] {"a", "z", "A", "Z"}) {
                fault("dues" + letter + " 1;", 1, 0);
                fault(letter + "dues 1;", 1, 0);
                fault("dues day" + letter + ";", 1, 5);
                fault("dues 1" + letter + ";", 1, 6);
            }
            for (String other : new String[] {"@", "[", "`", "{"}) {
                fault("dues" + other + " 1;", 1, 4);
                fault(other + "dues 1;", 1, 0);
                fault("dues day" + other + ";", 1, 8);
            }
            fault("daydues 1;", 1, 0);
            fault("dues dayday;", 1, 5);
            fault("Dues 1;", 1, 0);
            fault("dues DAY;", 1, 5);
        });
        edge("II: digits likewise", () -> {
            sound("dues 0;");
            sound("dues 9;");
            sound("dues1;");
            fault("dues 1 2;", 1, 7);
            fault("dues day1;", 1, 8);
            fault("dues 1day;", 1, 6);
            fault("dues :;", 1, 5);
            fault("dues 1:;", 1, 6);
            sound("dues 1/1;");
        });
        edge("II: NUMBERS, 0 .. 9999", () -> {
            sound("dues 9999;");
            sound("dues 0;");
            fault("dues 10000;", 2, 5);
            fault("dues 99999999999999999999;", 2, 5);
            fault("dues 4294967296;", 2, 5);
            fault("dues 18446744073709551617;", 2, 5);
            sound("dues 00000000000000000009999;");
            fault("dues 0000000000010000;", 2, 5);
            fault("dues " + times(294, "9") + ";", 2, 5);
            sound("dues " + times(294, "0") + ";");
        });
        edge("II: <= >= < > (the longest)", () -> {
            for (String sign : new String[] {"<=", ">=", "<", ">", "=", "#"}) sound("comes 1" + sign + "2;");
            fault("comes 1< =2;", 1, 9);
            fault("comes 1> =2;", 1, 9);
            fault("comes 1=<2;", 1, 8);
            fault("comes 1=>2;", 1, 8);
            fault("comes 1==2;", 1, 8);
            fault("comes 1<<2;", 1, 8);
            fault("comes 1<==2;", 1, 9);
            fault("comes 1<>2;", 1, 8);
            fault("comes 1<=", 1, 9);
            fault("comes 1<", 1, 8);
            ask("1<=1", true);
            ask("1>=1", true);
        });
        edge("II: no other sign is a TOKEN", () -> {
            for (String sign : new String[] {"!", "\"", "$", "%", "&", "'", ",", ".", "?", "\\", "]", "^", "_", "|", "}", "~"}) {
                fault("dues 1" + sign + ";", 1, 6);
            }
        });
    }

    // ---- faults ------------------------------------------------------------------------------------------
    private static void cantStand() {
        edge("FAULT 1: at a CLAUSE's first TOKEN, or is none", () -> {
            for (String token : new String[] {"1", ";", "(", "-", "not", "debt", "round", "to", "of", "and", "or", "weight",
                "due", "purse", "roof", "owed", "force", "quarter", "foo", "<"}) {
                fault(token, 1, 0);
                fault("day 1;" + token + " 1;", 1, 6);
            }
        });
        edge("FAULT 1: of the end at the length", () -> {
            for (String law : LAWS) fault(law, 1, 5 - (law.equals("dues") ? 1 : 0));
            String[] deeds = {"wind 0 weight 1 due 0;", "village 0 purse 0;", "way 0 to 1 of 1;", "pay 0 to 1 of 1;",
                "merge 0 to 1;", "day 1;", "comes 1<2;", "dues (1);", "dues round 1 to 2;", "comes not 1<2 and 2<3 or 3<4;"};
            for (String deed : deeds) {
                sound(deed);
                for (int end = 1; end < deed.length(); end++) {
                    boolean behindToken = !Character.isLetterOrDigit(deed.charAt(end)) || deed.charAt(end - 1) == ' ';
                    if (behindToken && deed.charAt(end) != ' ') fault(deed.substring(0, end), 1, end);
                }
                fault(deed.substring(0, deed.length() - 1) + "\n  ", 1, deed.length() + 2);
            }
        });
        edge("FAULT 1: where the CLAUSE has another TOKEN", () -> {
            String[] deeds = {"wind 0 weight 1 due 0;", "village 0 purse 0;", "way 0 to 1 of 1;", "pay 0 to 1 of 1;",
                "merge 0 to 1;", "day 1;"};
            for (String deed : deeds) {
                for (int i = 1; i < deed.length(); i++) {
                    boolean begins = deed.charAt(i) != ' ' && (deed.charAt(i - 1) == ' ' || deed.charAt(i) == ';');
                    if (begins) {
                        for (String other : new String[] {"foo", ")", "-", "and", "day"}) fault(deed.substring(0, i) + " " + other, 1, i + 1);
                        fault(deed.substring(0, i) + " " + (Character.isDigit(deed.charAt(i)) ? ";" : "1"), 1, i + 1);
                    }
                }
            }
            fault("wind 0 due 1;", 1, 7);
            fault("wind 0 weight 1 weight 1;", 1, 16);
            fault("way 0 of 1;", 1, 6);
            fault("way 0 to 1;", 1, 10);
            fault("pay 0 to 1 to 1;", 1, 11);
            fault("merge 0 to 1 of 1;", 1, 13);
            fault("day 1 2;", 1, 6);
        });
        edge("FAULT 1: a ONE must come", () -> {
            for (String other : new String[] {";", ")", "+", "*", "/", "to", "of", "and", "or", "not", "<", "=", "wind", "comes", "foo"}) {
                fault("dues " + other, 1, 5);
                fault("dues 1+" + other, 1, 7);
                fault("dues 1*" + other, 1, 7);
                fault("dues (" + other, 1, 6);
                fault("dues -" + other, 1, 6);
                fault("dues debt " + other, 1, 10);
                fault("dues round " + other, 1, 11);
                fault("dues round 1 to " + other, 1, 16);
                fault("comes 1< " + other, 1, 9);
                if (!other.equals("not")) {
                    fault("comes " + other, 1, 6);
                    fault("comes not " + other, 1, 10);
                    fault("comes 1<2 and " + other, 1, 14);
                    fault("comes 1<2 or " + other, 1, 13);
                }
            }
        });
        edge("FAULT 1: behind a ONE", () -> {
            for (String other : new String[] {"1", "day", "(", "not", "debt", "round", "to", "of", "and", "or", "<", "=", "#", "wind", ")"}) {
                fault("dues 1 " + other, 1, 7);
                if (!other.equals(")")) fault("dues (1 " + other, 1, 8);
                if (!other.equals("to")) fault("dues round 1 " + other, 1, 13);
                fault("dues round 1 to 1 " + other, 1, 18);
            }
            fault("dues (1;", 1, 7);
            fault("dues round 1+1 to 2;", 1, 12);
            fault("dues round 1;", 1, 12);
            fault("dues round 1 to 2 to 3;", 1, 18);
        });
        edge("FAULT 1: ASK has one of < <= > >= = #", () -> {
            fault("comes 1;", 1, 7);
            fault("comes 1 and 2;", 1, 8);
            fault("comes 1 or 2;", 1, 8);
            fault("comes 1<2<3;", 1, 9);
            fault("comes 1<2=3;", 1, 9);
            fault("comes 1<2 and 3;", 1, 15);
            fault("comes (1<2);", 1, 8);
            fault("comes 1<(2<3);", 1, 10);
            fault("comes 1<not 2;", 1, 8);
            fault("comes 1+not 2<3;", 1, 8);
            fault("comes 1<2 not 2<3;", 1, 10);
            fault("comes (not 1<2);", 1, 7);
            for (String law : LAWS) {
                fault(law + " 1<2;", 1, law.length() + 2);
                fault(law + " not 1<2;", 1, law.length() + 1);
            }
        });
    }

    private static void bound(String ahead, int most, String behind) {
        sound(ahead + most + behind);
        fault(ahead + (most + 1) + behind, 2, ahead.length());
        fault(ahead + (most + 1), 2, ahead.length());
        fault(ahead + "10000" + behind, 2, ahead.length());
    }

    private static void notTold() {
        edge("FAULT 2: above 9999", () -> {
            for (String law : LAWS) bound(law + " ", 9999, ";");
            bound("dues (", 9999, ");");
            bound("dues -", 9999, ";");
            bound("dues debt ", 9999, ";");
            bound("dues round ", 9999, " to 1;");
            bound("dues round 1 to ", 9999, ";");
            bound("comes ", 9999, "<1;");
            bound("comes 1<", 9999, ";");
            bound("village 0 purse ", 9999, ";");
        });
        edge("FAULT 2: QUARTERS 0 .. 3", () -> {
            sound("wind 0 weight 1 due 0;");
            bound("wind ", 3, " weight 1 due 0;");
        });
        edge("FAULT 2: WEIGHTS 1 .. 9", () -> {
            sound("wind 0 weight 1 due 0;");
            fault("wind 0 weight 0 due 0;", 2, 14);
            bound("wind 0 weight ", 9, " due 0;");
        });
        edge("FAULT 2: DUES 0 .. 99", () -> {
            sound("wind 0 weight 1 due 0;");
            bound("wind 0 weight 1 due ", 99, ";");
        });
        edge("FAULT 2: ROOFS 0 .. 9", () -> {
            sound("village 0 purse 0;");
            bound("village ", 9, " purse 0;");
        });
        edge("FAULT 2: WINDS, VILLAGES 0 .. 5", () -> {
            sound("way 0 to 0 of 1;pay 0 to 0 of 1;merge 0 to 0;");
            bound("way ", 5, " to 1 of 1;");
            bound("way 1 to ", 5, " of 1;");
            bound("pay ", 5, " to 1 of 1;");
            bound("pay 1 to ", 5, " of 1;");
            bound("merge ", 5, " to 1;");
            bound("merge 1 to ", 5, ";");
        });
        edge("FAULT 2: WAYS 0 .. 99", () -> {
            sound("way 0 to 1 of 0;");
            bound("way 0 to 1 of ", 99, ";");
        });
        edge("FAULT 2: pence 1 .. 999", () -> {
            sound("pay 0 to 1 of 1;");
            fault("pay 0 to 1 of 0;", 2, 14);
            bound("pay 0 to 1 of ", 999, ";");
        });
        edge("FAULT 2: DAYS 1 .. 60", () -> {
            sound("day 1;");
            fault("day 0;", 2, 4);
            bound("day ", 60, ";");
        });
        edge("FAULT 2: no bound but that in laws", () -> sound("blows 9999;takes 9999;catch 9999;dues debt 9999;"));
    }

    private static void open() {
        edge("FAULT 3: the 9th of ( that are open around one another (at it)", () -> {
            sound("dues " + times(8, "(") + "1" + times(8, ")") + ";");
            fault("dues " + times(9, "(") + "1" + times(9, ")") + ";", 3, 13);
            fault("takes " + times(9, "("), 3, 14);
            sound("dues " + times(8, "(") + "1" + times(8, ")") + "+" + times(8, "(") + "1" + times(8, ")") + ";");
            sound("dues " + times(8, "(") + "1)+(1))*((1))" + times(6, ")") + ";");
            fault("dues " + times(8, "(") + "1)+(1))*(((1))" + times(6, ")") + ";", 3, 23);
        });
        edge("FAULT 3: the 9th not (of comes)", () -> {
            sound("comes " + times(8, "not ") + "1<2;");
            fault("comes " + times(9, "not ") + "1<2;", 3, 38);
            sound("comes " + times(8, "not ") + "1<2 and " + times(8, "not ") + "1<2 or " + times(8, "not ") + "1<2;");
        });
        edge("FAULT 3: a not is open till its ASK is whole", () -> {
            fault("comes " + times(8, "not ") + "1<(2);", 3, 40);
            fault("comes " + times(8, "not ") + "(1)<2;", 3, 38);
            sound("comes " + times(7, "not ") + "(1)<(2);");
            sound("comes " + times(8, "not ") + "1<2 and (1)<" + times(8, "-") + "2;");
            sound("comes " + times(8, "not ") + "1<2 or (1)<2;");
        });
        edge("FAULT 3: the 9th debt", () -> {
            sound("dues " + times(8, "debt ") + "1;");
            fault("dues " + times(9, "debt ") + "1;", 3, 45);
            sound("dues " + times(8, "debt ") + "1+" + times(8, "debt ") + "1;");
        });
        edge("FAULT 3: the 9th - (of one ONE)", () -> {
            sound("dues " + times(8, "-") + "1;");
            fault("dues " + times(9, "-") + "1;", 3, 13);
            sound("dues " + times(8, "-") + "1*" + times(8, "-") + "1;");
            sound("dues 1-" + times(8, "-") + "1;");
            sound("dues 1" + times(20, "-1") + ";");
        });
        edge("FAULT 3: the 9th round (till its second is whole)", () -> {
            sound("dues " + times(8, "round ") + "1" + times(8, " to 1") + ";");
            fault("dues " + times(9, "round ") + "1;", 3, 53);
            sound("dues " + times(8, "round 1 to ") + "1;");
            fault("dues " + times(9, "round 1 to ") + "1;", 3, 93);
            fault("dues " + times(8, "round 1 to ") + "(1);", 3, 93);
            fault("dues " + times(7, "(") + "round 1 to (1)", 3, 23);
            sound("dues " + times(7, "(") + "round 1 to 1+(1)" + times(7, ")") + ";");
            sound("dues " + times(7, "(") + "round 1 to 1*-1" + times(7, ")") + ";");
        });
        edge("FAULT 3: open around one another, not one behind the other", () -> {
            for (int first = 0; first <= 8; first++) {
                for (int second = 0; second <= 8; second += 4) {
                    String one = times(first, "("), other = times(second, "(");
                    sound("dues " + one + "1" + one.replace('(', ')') + "+" + other + "1" + other.replace('(', ')') + ";");
                    sound("dues " + times(first, "-") + "1*" + times(second, "-") + "1;");
                    sound("dues " + times(first, "debt ") + "1/" + times(second, "debt ") + "1;");
                    sound("dues " + times(first, "round 1 to ") + "1-" + times(second, "round 1 to ") + "1;");
                    sound("comes " + times(first, "not ") + "1<2 and " + times(second, "not ") + "1<2;");
                    sound("comes " + times(first, "not ") + "1<2 or " + times(second, "not ") + "1<2;");
                    sound("comes " + times(first, "not ") + "1<2 or " + times(second, "-") + "1<2;");
                    sound("comes " + times(first, "not ") + "1<2;dues " + times(second, "-") + "1;");
                }
            }
        });
        edge("FAULT 3: of all these together", () -> {
            sound("comes not not -(debt round 1 to (-1))<0;");
            fault("comes not not -(debt round 1 to (-(1)))<0;", 3, 34);
            fault("comes not not not -(debt round 1 to (-1))<0;", 3, 37);
            sound("dues -(debt round -(debt 1) to -(1));");
            fault("dues -(debt round -(debt round -(1) to 1) to 1);", 3, 31);
        });
    }

    private static void otherFaults() {
        edge("FAULT 4: comes, blows, takes, catch, dues for the second time (at it)", () -> {
            for (String law : new String[] {"comes 1<2;", "blows 1;", "takes 1;", "catch 1;", "dues 1;"}) {
                fault(law + law, 4, law.length());
                fault(law + " day 1;\n" + law, 4, law.length() + 8);
                fault(law + law.substring(0, 5), 4, law.length());
            }
            sound("comes 1<2;blows 1;takes 1;catch 1;dues 1;");
        });
        edge("FAULT 4: no other CLAUSE", () -> sound("wind 0 weight 1 due 0;wind 0 weight 1 due 0;village 0 purse 0;"
                + "village 0 purse 0;way 0 to 1 of 1;way 0 to 1 of 1;pay 0 to 0 of 1;pay 0 to 0 of 1;merge 0 to 1;merge 0 to 1;day 1;day 1;"));
        edge("FAULT 5: a NAME that isn't of that CLAUSE (at it)", () -> {
            for (String name : new String[] {"roof", "purse"}) {
                fault("comes " + name + "<1;", 5, 6);
                fault("comes 1<" + name + ";", 5, 8);
                fault("comes not (1+" + name + ")<1;", 5, 13);
                fault("blows " + name + ";", 5, 6);
                fault("dues 1+" + name + ";", 5, 7);
                fault("dues debt " + name + ";", 5, 10);
                sound("takes " + name + ";catch 1+" + name + ";");
            }
        });
        edge("FAULT 5: day, quarter, owed, due, weight, force in all", () -> {
            for (String name : new String[] {"day", "quarter", "owed", "due", "weight", "force"}) {
                sound("comes " + name + "<" + name + ";blows " + name + ";takes " + name + ";catch " + name + ";dues " + name + ";");
            }
        });
        edge("FAULT 6: the 25th CLAUSE (at its first TOKEN)", () -> {
            sound(times(24, "day 1;"));
            fault(times(25, "day 1;"), 6, 144);
            fault(times(24, "day 1;") + " \n day", 6, 147);
            for (String first : new String[] {"comes", "blows", "takes", "catch", "dues", "wind", "village", "way", "pay", "merge", "day"}) {
                fault(times(24, "day 1;") + first, 6, 144);
            }
            sound("comes 1<2;blows 1;takes 1;catch 1;dues 1;" + times(19, "day 1;"));
            fault("comes 1<2;blows 1;takes 1;catch 1;dues 1;" + times(20, "day 1;"), 6, 155);
        });
        edge("FAULTS: the first as TOKENS are come to", () -> {
            fault("dues roof;dues 10000;", 5, 5);
            fault("dues 10000+roof;", 2, 5);
            fault("dues 1;dues roof;", 4, 7);
            fault("dues " + times(9, "(") + "10000;", 3, 13);
            fault("dues " + times(8, "(") + "10000(;", 2, 13);
            fault("dues 10000", 2, 5);
            fault("wind 4 foo", 2, 5);
            fault("wind foo 10", 1, 5);
        });
        edge("FAULTS: of one TOKEN the least", () -> {
            fault(times(24, "day 1;") + "foo", 1, 144);
            fault(times(24, "day 1;") + "10000", 1, 144);
            fault(times(23, "day 1;") + "dues 1;dues 1;", 4, 145);
            fault("dues 1 10000;", 1, 7);
            fault("dues 1 roof;", 1, 7);
            fault("dues " + times(8, "(") + "1(", 1, 14);
            fault("dues " + times(8, "(") + "not 1", 1, 13);
            fault("comes " + times(8, "not ") + "1 not", 1, 40);
            fault("wind 0 10000;", 1, 7);
        });
        edge("FAULTS: at the TOKEN's first byte", () -> {
            fault("  foo", 1, 2);
            fault("dues\n\n 12345 ;", 2, 7);
            fault("dues 1 ; \n dues 2;", 4, 11);
            fault("comes  purse < 1;", 5, 7);
        });
    }

    // ---- laws --------------------------------------------------------------------------------------------
    /** A number as a law can tell it. */
    private static String number(int n) {
        if (n < 0) {
            return "-(" + number(-n) + ")";
        }
        return n <= 9999 ? "" + n : n / 1000 + "*1000+" + n % 1000;
    }

    /** What a sum is, told by asking whether it is so much. */
    private static void sum(String sum, int want) {
        ask(sum + " = " + number(want), true);
        ask(sum + " # " + number(want), false);
    }

    private static void ask(String either, boolean want) {
        OwedToWinds x = under("comes " + either + ";", "wind 3 weight 7 due 20;wind 1 weight 2 due 9;village 2 purse 99;pay 0 to 1 of 4;");
        due("comes " + either, x.ofWind(0, 7), want ? 1 : 0);
    }

    private static void sums() {
        edge("II: From the left", () -> {
            sum("7-2-3", 2);
            sum("7-2+3", 8);
            sum("40/4/2", 5);
            sum("7/2*2", 6);
            sum("7*2/4", 3);
            sum("2+3*4", 14);
            sum("2*3+4", 10);
            sum("20-6/3", 18);
            sum("(20-6)/3", 4);
        });
        edge("II: / cuts towards 0", () -> {
            sum("7/2", 3);
            sum("-7/2", -3);
            sum("7/-2", -3);
            sum("-7/-2", 3);
            sum("1/2", 0);
            sum("-1/2", 0);
            sum("6/3", 2);
        });
        edge("II: / by 0 it is 0", () -> {
            sum("7/0", 0);
            sum("0/0", 0);
            sum("-7/0", 0);
            sum("7/(3-3)+2", 2);
        });
        edge("II: what is above 1000000 is that", () -> {
            sum("9999*100+99", 999999);
            sum("9999*100+100", 1000000);
            sum("9999*100+101", 1000000);
            sum("1000*1000", 1000000);
            sum("999*1001", 999999);
            sum("1001*1000", 1000000);
            sum("9999*9999", 1000000);
            sum("(1000*1000)*(1000*1000)", 1000000);
            sum("(1000*1000)*9999", 1000000);
        });
        edge("II: below the same less", () -> {
            sum("-9999*100-99", -999999);
            sum("-9999*100-100", -1000000);
            sum("-9999*100-101", -1000000);
            sum("-1000*1000", -1000000);
            sum("-1001*1000", -1000000);
            sum("9999*-9999", -1000000);
            sum("(1000*1000)*-(1000*1000)", -1000000);
        });
        edge("II: at each step", () -> {
            sum("9999*9999/9999", 100);
            sum("9999*100+9999-1", 999999);
            sum("-9999*100-9999+1", -999999);
            sum("1000*2000/1000", 1000);
            sum("9999*9999-9999*9999", 0);
            sum("round (1000*1000) to (600*1000) - 1", 999999);
            sum("round -(1000*1000) to (600*1000) + 1", -999999);
        });
        edge("II: round: the multiple that is nearest", () -> {
            sum("round 0 to 5", 0);
            sum("round 2 to 5", 0);
            sum("round 3 to 5", 5);
            sum("round 5 to 5", 5);
            sum("round 7 to 5", 5);
            sum("round 8 to 5", 10);
            sum("round -2 to 5", 0);
            sum("round -3 to 5", -5);
            sum("round -7 to 5", -5);
            sum("round -8 to 5", -10);
            sum("round 9999 to 1", 9999);
        });
        edge("II: round: of two as near the greater", () -> {
            sum("round 1 to 2", 2);
            sum("round 5 to 10", 10);
            sum("round 4 to 10", 0);
            sum("round 6 to 10", 10);
            sum("round -5 to 10", 0);
            sum("round -4 to 10", 0);
            sum("round -6 to 10", -10);
            sum("round -15 to 10", -10);
            sum("round 15 to 10", 20);
        });
        edge("II: round: the second one's size", () -> {
            sum("round 8 to -5", 10);
            sum("round 5 to -10", 10);
            sum("round -5 to -10", 0);
            sum("round -8 to -5", -10);
        });
        edge("II: round to 0: the first", () -> {
            sum("round 13 to 0", 13);
            sum("round -13 to 0", -13);
            sum("round 0 to 0", 0);
            sum("round 13 to (5-5)", 13);
        });
        edge("II: round ONE to ONE", () -> {
            sum("round 3 to 2*3", 12);
            sum("round 9 to 4 + 1", 9);
            sum("round -9 to 4", -8);
            sum("-round 10 to 4", -12);
            sum("round round 7 to 5 to 3", 6);
            sum("round 7 to round 5 to 3", 6);
        });
        edge("II: debt ONE: 0 if none such is told", () -> {
            sum("debt 0", 0);
            sum("debt 1", -4);
            sum("debt 2", 0);
            sum("debt 5", 0);
            sum("debt 6", 0);
            sum("debt 9999", 0);
            sum("debt -1", 0);
            sum("debt (2-1)", -4);
            sum("debt 1*3", -12);
            sum("debt debt 0", 0);
            due("of none", under("dues 5+debt 0;", "wind 0 weight 1 due 0;").ofWind(0, 8), 5);
        });
        edge("II: debt of a GONE one is what it is OWED", () -> {
            OwedToWinds x = under("dues debt 0;", "wind 0 weight 1 due 30;wind 0 weight 1 due 9;day 1;merge 0 to 1;");
            due("30 stays", x.ofWind(1, 8), 30);
        });
        edge("II: debt of all six, none behind", () -> {
            OwedToWinds x = new OwedToWinds();
            for (int i = 0; i < 6; i++) x.wind(0, 1, 10 + i);
            x.day(1);
            ruled(x, "dues debt 5;");
            due("the sixth", x.ofWind(0, 8), 15);
            ruled(x, "dues debt 6;");
            due("no seventh", x.ofWind(0, 8), 0);
        });
        edge("II: - ONE", () -> {
            sum("-3", -3);
            sum("--3", 3);
            sum("2--3", 5);
            sum("-2*3", -6);
            sum("-(2+3)", -5);
            sum("-0", 0);
        });
    }

    private static void asks() {
        edge("II: < <= > >= = #", () -> {
            int[][] pairs = {{1, 2}, {2, 2}, {3, 2}};
            String[] signs = {"<", "<=", ">", ">=", "=", "#"};
            boolean[][] so = {{true, false, false}, {true, true, false}, {false, false, true}, {false, true, true},
                {false, true, false}, {true, false, true}};
            for (int s = 0; s < signs.length; s++) {
                for (int p = 0; p < 3; p++) {
                    ask(pairs[p][0] + signs[s] + pairs[p][1], so[s][p]);
                    ask("-" + pairs[p][1] + signs[s] + "-" + pairs[p][0], so[s][p]);
                }
            }
        });
        edge("II: EITHER: BOTH {or BOTH}. BOTH: ASK {and ASK}", () -> {
            String[] sides = {"1=2", "1=1"};
            for (int a = 0; a < 2; a++) {
                for (int b = 0; b < 2; b++) {
                    ask(sides[a] + " and " + sides[b], a == 1 && b == 1);
                    ask(sides[a] + " or " + sides[b], a == 1 || b == 1);
                    for (int c = 0; c < 2; c++) {
                        ask(sides[a] + " or " + sides[b] + " and " + sides[c], a == 1 || b == 1 && c == 1);
                        ask(sides[a] + " and " + sides[b] + " or " + sides[c], a == 1 && b == 1 || c == 1);
                        ask(sides[a] + " and not " + sides[b] + " and " + sides[c], a == 1 && b == 0 && c == 1);
                    }
                }
            }
        });
        edge("II: each of < <= > >= = # with or, and, not", () -> {
            String[] so = {"1<2", "1<=2", "2>1", "2>=1", "1=1", "1#2"};
            String[] not = {"2<1", "2<=1", "1>2", "1>=2", "1=2", "1#1"};
            for (int a = 0; a < 6; a++) {
                for (int b = 0; b < 6; b++) {
                    ask(so[a] + " and " + so[b], true);
                    ask(so[a] + " and " + not[b], false);
                    ask(not[a] + " or " + so[b], true);
                    ask(not[a] + " or " + not[b], false);
                }
                ask("not " + so[a], false);
                ask("not " + not[a], true);
            }
        });
        edge("II: not ASK", () -> {
            ask("not 1<2", false);
            ask("not 2<1", true);
            ask("not not 1<2", true);
            ask("not 1=2 and 1=2", false);
            ask("not 1=1 or 1=1", true);
        });
    }

    private static void namesOfLaws() {
        edge("II: force (as it blew last) in comes, blows, dues", () -> {
            // Drawn are 1, 1: the second blew 5, then 6.
            OwedToWinds x = under("blows 5+day;", "wind 0 weight 1 due 0;wind 0 weight 1 due 0;");
            x.day(2);
            ruled(x, "comes force=6;blows force+1;dues force*10;");
            due("comes", x.ofWind(1, 7), 1);
            due("blows", x.ofWind(1, 6), 7);
            due("dues", x.ofWind(1, 8), 60);
            due("of the other one", x.ofWind(0, 6), 1);
        });
        edge("II: force in takes, catch as it blows now, 0 in calm", () -> {
            OwedToWinds x = under("takes force*10;catch force*10+1;", "wind 0 weight 1 due 50;village 0 purse 0;day 1;");
            due("blew last", x.ofWind(0, 4), 5);
            due("takes", x.takes(0, 0, 3), 30);
            due("catch", x.catches(0, 0, 3), 31);
            due("in calm", x.ofVillage(0, 3), 1);
        });
        edge("II: quarter, owed, due, weight 0 in catch in calm", () -> {
            for (String name : new String[] {"quarter", "owed", "due", "weight", "force"}) {
                OwedToWinds x = under("catch " + name + ";", "wind 3 weight 4 due 50;village 0 purse 0;day 1;");
                due(name, x.ofVillage(0, 3), 0);
            }
            OwedToWinds x = under("catch day+roof*10+debt 0;", "wind 3 weight 4 due 50;village 2 purse 0;day 1;");
            due("day, roof, debt", x.ofVillage(0, 3), 71);
        });
        edge("II: quarter, owed, due, weight, roof, purse of those that it is asked of", () -> {
            OwedToWinds x = played("wind 0 weight 1 due 1;wind 3 weight 4 due 50;village 2 purse 30;village 5 purse 60;pay 1 to 1 of 7;");
            int[] due = {3, 0, 50, 4, 5, 53};
            String[] names = {"quarter", "owed+7", "due", "weight", "roof", "purse"};
            for (int i = 0; i < 6; i++) {
                x.back();
                tell(x, "wind 0 weight 1 due 1;wind 3 weight 4 due 50;village 2 purse 30;village 5 purse 60;pay 1 to 1 of 7;");
                x.played(0);
                ruled(x, "takes " + names[i] + ";");
                due(names[i], x.takes(1, 1, 1), due[i]);
            }
        });
    }

    private static void bounds() {
        edge("II: comes without: always", () -> {
            OwedToWinds x = under("blows 0;", "wind 0 weight 1 due 0;");
            due("comes", x.ofWind(0, 7), 1);
            x.by(NONE);
            due("comes", x.ofWind(0, 7), 1);
        });
        edge("II: blows: 0 at least, 9 at most", () -> {
            int[][] pairs = {{-1, 0}, {0, 0}, {1, 1}, {8, 8}, {9, 9}, {10, 9}, {9999, 9}, {-9999, 0}};
            for (int[] pair : pairs) due("blows " + pair[0], law("blows", pair[0]).ofWind(0, 6), pair[1]);
            OwedToWinds x = law("blows", 10);
            x.day(1);
            due("force of the day", x.ofWind(0, 4), 9);
        });
        edge("II: blows without: OWED by 10", () -> {
            for (int due : new int[] {0, 9, 10, 19, 20, 89, 90, 99}) {
                due("of " + due, played("wind 0 weight 1 due " + due + ";day 1;").ofWind(0, 6), due / 10);
            }
            due("of 198", passed(played("wind 0 weight 1 due 99;"), 8).ofWind(0, 6), 9);
            due("of 100", passed(played("wind 0 weight 1 due 50;"), 8).ofWind(0, 6), 9);
            due("of -10", played("wind 0 weight 1 due 0;village 0 purse 99;pay 0 to 0 of 10;").ofWind(0, 6), 0);
        });
        edge("II: takes: 0 at least, 99 at most", () -> {
            int[][] pairs = {{-1, 0}, {0, 0}, {1, 1}, {98, 98}, {99, 99}, {100, 99}, {9999, 99}, {-9999, 0}};
            for (int[] pair : pairs) due("takes " + pair[0], law("takes", pair[0]).takes(0, 0, 5), pair[1]);
        });
        edge("II: takes without: FORCE less ROOF", () -> {
            OwedToWinds x = played("wind 0 weight 1 due 0;village 5 purse 0;village 0 purse 0;village 9 purse 0;");
            due("4 less 5", x.takes(0, 0, 4), 0);
            due("5 less 5", x.takes(0, 0, 5), 0);
            due("6 less 5", x.takes(0, 0, 6), 1);
            due("9 less 0", x.takes(0, 1, 9), 9);
            due("1 less 9", x.takes(0, 2, 1), 0);
        });
        edge("II: catch: 0 at least, 99 at most", () -> {
            int[][] pairs = {{-1, 0}, {0, 0}, {1, 1}, {98, 98}, {99, 99}, {100, 99}, {9999, 99}, {-9999, 0}};
            for (int[] pair : pairs) {
                due("catch " + pair[0], law("catch", pair[0]).catches(0, 0, 5), pair[1]);
                due("in calm catch " + pair[0], law("catch", pair[0]).ofVillage(0, 3), pair[1]);
            }
        });
        edge("II: catch without: 3, in calm 0", () -> {
            OwedToWinds x = played("wind 0 weight 1 due 0;village 9 purse 0;");
            due("of force 1", x.catches(0, 0, 1), 3);
            due("of force 9", x.catches(0, 0, 9), 3);
            due("in calm", x.ofVillage(0, 3), 0);
        });
        edge("II: dues: 0 at least, 99 at most", () -> {
            int[][] pairs = {{-1, 0}, {0, 0}, {1, 1}, {98, 98}, {99, 99}, {100, 99}, {9999, 99}, {-9999, 0}};
            for (int[] pair : pairs) {
                OwedToWinds x = law("dues", pair[0]);
                due("dues " + pair[0], x.ofWind(0, 8), pair[1]);
                x.day(1);
                due("owed by dues " + pair[0], x.ofWind(0, 3), pair[1]);
            }
        });
        edge("II: dues without: DUE", () -> {
            for (int due : new int[] {0, 1, 99}) due("of " + due, played("wind 0 weight 1 due " + due + ";").ofWind(0, 8), due);
        });
        edge("II: dues: 99 at most also without, of a DUE that is more by merging", () -> {
            OwedToWinds x = played("wind 0 weight 1 due 50;wind 0 weight 1 due 49;wind 0 weight 1 due 1;merge 1 to 0;");
            due("of 99", x.ofWind(0, 8), 99);
            x.merge(2, 0);
            due("DUE", x.ofWind(0, 2), 100);
            due("of 100", x.ofWind(0, 8), 99);
            x.day(1);
            due("owed", x.ofWind(0, 3), 99);
        });
        edge("II: a TEXT with some laws leaves the others as without", () -> {
            OwedToWinds x = under("catch 7;", "wind 0 weight 1 due 30;village 1 purse 0;day 1;");
            due("blows", x.ofWind(0, 6), 3);
            due("comes", x.ofWind(0, 7), 1);
            due("dues", x.ofWind(0, 8), 30);
            due("takes", x.takes(0, 0, 3), 2);
            due("catch", x.catches(0, 0, 3), 7);
        });
    }

    private static OwedToWinds law(String law, int value) {
        return under(law + " " + (value < 0 ? "-" + -value : "" + value) + ";", "wind 0 weight 1 due 50;village 0 purse 0;");
    }

    // ---- playing -----------------------------------------------------------------------------------------
    private static void played() {
        edge("13: NONE: all is done", () -> {
            OwedToWinds x = new OwedToWinds();
            tell(x, "");
            tell(x, "comes 1<2;dues 7;");
            tell(x, "wind 3 weight 9 due 99;village 9 purse 9999;village 0 purse 0;way 0 to 1 of 99;pay 0 to 0 of 999;"
                    + "wind 0 weight 1 due 0;merge 0 to 1;day 60;");
            due("of no clause", x.played(0), NONE);
            due("of laws alone", x.played(1), NONE);
            due("of deeds", x.played(2), NONE);
            due("day", x.is(0), 60);
        });
        edge("13: -2 for others", () -> {
            due("none told", new OwedToWinds().played(0), -2);
            due("NONE of none told", new OwedToWinds().played(NONE), -2);
            idle("behind the last", -2, x -> x.played(x.about(2)));
            idle("NONE", -2, x -> x.played(NONE));
            idle("HIGH", -2, x -> x.played(HIGH));
            idle("LOW", -2, x -> x.played(LOW));
        });
        edge("PLAYED: its CLAUSES but laws", () -> {
            OwedToWinds x = new OwedToWinds();
            tell(x, "dues 7;wind 0 weight 1 due 50;blows 9;day 1;");
            due("played", x.played(0), NONE);
            due("THE TEXT", x.about(3), NONE);
            due("by no law of it", x.ofWind(0, 3), 50);
            due("by no law of it", x.ofWind(0, 4), 5);
        });
        edge("PLAYED: THE TEXT rules in it", () -> {
            OwedToWinds x = under("dues 7;blows 2;", "wind 0 weight 1 due 50;");
            tell(x, "dues 8;blows 3;day 1;");
            x.played(2);
            due("owed", x.ofWind(0, 3), 7);
            due("force", x.ofWind(0, 4), 2);
        });
        edge("PLAYED: in their order", () -> {
            OwedToWinds x = new OwedToWinds();
            tell(x, "day 1;wind 0 weight 1 due 50;day 6;village 0 purse 9;day 1;");
            due("played", x.played(0), NONE);
            due("owed on day 7 alone", x.ofWind(0, 3), 50);
            due("taken on day 7 alone", x.ofVillage(0, 2), 5);
        });
        edge("PLAYED: one that can't be ends it: its number among all CLAUSES (from 0); what was done stays", () -> {
            String[] bad = {"wind 0 weight 1 due 0;", "village 0 purse 0;", "way 0 to 0 of 1;", "pay 0 to 0 of 10;", "merge 0 to 0;"};
            for (String clause : bad) {
                OwedToWinds x = new OwedToWinds();
                for (int i = 0; i < 6; i++) {
                    x.wind(0, 1, 0);
                    x.village(0, 0);
                }
                tell(x, clause + "day 1;");
                tell(x, "dues 1;day 2;blows 1;" + clause + "day 1;");
                due("the first: " + clause, x.played(0), 0);
                due("nothing is done", x.is(0), 0);
                due("the fourth: " + clause, x.played(1), 3);
                due("what was done stays", x.is(0), 2);
                due("steps", x.about(4), 2);
                due("winds", x.about(0), 6);
                due("villages", x.about(1), 6);
            }
        });
        edge("PLAYED: 24 CLAUSES, all of them", () -> {
            OwedToWinds x = new OwedToWinds();
            tell(x, times(24, "day 1;"));
            due("played", x.played(0), NONE);
            due("day", x.is(0), 24);
        });
        edge("PLAYED: the 24th CLAUSE", () -> {
            OwedToWinds x = new OwedToWinds();
            tell(x, times(23, "day 1;") + "merge 0 to 1;");
            due("played", x.played(0), 23);
            due("day", x.is(0), 23);
        });
        edge("PLAYED: as by hand: the seventh of WINDS, of VILLAGES", () -> {
            OwedToWinds x = new OwedToWinds();
            tell(x, times(7, "wind 0 weight 1 due 0;"));
            tell(x, times(7, "village 0 purse 0;"));
            due("the seventh", x.played(0), 6);
            due("winds", x.about(0), 6);
            due("the seventh", x.played(1), 6);
            due("villages", x.about(1), 6);
        });
        edge("PLAYED: as by hand: each DAY, PAID, MERGED is a STEP", () -> {
            OwedToWinds x = new OwedToWinds();
            tell(x, "wind 0 weight 1 due 0;wind 0 weight 1 due 0;village 0 purse 9;way 0 to 0 of 0;");
            tell(x, "day 3;pay 0 to 0 of 1;merge 0 to 1;");
            x.played(0);
            due("told alone", x.about(4), 0);
            due("played", x.played(1), NONE);
            due("steps", x.about(4), 5);
        });
        edge("PLAYED: of so many DAYS those that can pass do", () -> {
            OwedToWinds x = passed(new OwedToWinds(), 9950);
            tell(x, "village 0 purse 0;day 49;");
            tell(x, "day 50;");
            x.image();
            due("49 of 49", x.played(0), NONE);
            due("day", x.is(0), 9999);
            due("none of 50", x.played(1), 0);
            due("day", x.is(0), 9999);
            x.back();
            due("49 of 50", x.played(1), 0);
            due("day", x.is(0), 9999);
            due("the latest step", x.undo() * 10000 + x.is(0), 299998);
            due("1 of 49", x.played(0), 1);
            due("day", x.is(0), 9999);
            due("villages", x.about(1), 1);
        });
    }

    public static void main(String[] args) {
        tape();
        texts();
        tokens();
        cantStand();
        notTold();
        open();
        otherFaults();
        sums();
        asks();
        namesOfLaws();
        bounds();
        played();
        end();
    }
}
