/** The edges that the terms of texts and promises 21 to 24 name, a method for each. */
public final class TextEdgesTest {
    private static void fault(String about, String text, int want) {
        TokenNets x = new TokenNets();
        Due.write(x, text);
        new Due("texts, " + about).is("fault() of " + text, x.fault(), want);
        new Due("texts, " + about).is("count(5) of " + text, x.count(5), text.length());
        if (want == -6) {
            new Due("texts, " + about).is("carryOut() of " + text, Math.min(0, x.carryOut()), 0);
        } else {
            new Due("texts, " + about).is("carryOut() of " + text, x.carryOut(), -3);
            new Due("texts, " + about).is("count(5) of " + text + " then", x.count(5), text.length());
        }
    }

    private static void good(String about, String... texts) {
        for (String text : texts) {
            fault(about, text, -6);
        }
    }

    // ---- the pad

    private static void oneToEightCharacters() {
        Due due = new Due("promise 21, 1 to 8 characters");
        int length = 0;
        TokenNets x = new TokenNets();
        due.is("put(0)", x.put(0), -2);
        for (int many = 1; many <= 8; many++) {
            length += many;
            due.is("put() of " + many, x.put(Due.packed("p1;p2;p3".substring(0, many))), length);
        }
        due.is("put(0), no character", x.put(0), -2);
        due.is("count(5)", x.count(5), 36);
    }

    private static void codesFrom33To126() {
        Due due = new Due("promise 21, codes 33 to 126");
        for (int code = 1; code < 256; code++) {
            TokenNets x = new TokenNets();
            boolean good = code >= 33 && code <= 126;
            due.is("put(" + code + ")", x.put(code), good ? 1 : -2);
            for (int at = 0; at < 8; at++) {
                long eight = Due.packed("pppppppp") & ~(255L << 8 * at) | (long) code << 8 * at;
                due.is("put() with " + code + " at " + at, x.put(eight), good ? at * 8 + 9 : -2);
            }
            due.is("count(5)", x.count(5), good ? 65 : 0);
        }
    }

    private static void nothingAboveAZero() {
        Due due = new Due("promise 21, a bit above 8 bits that are 0");
        TokenNets x = new TokenNets();
        for (int at = 8; at < 64; at++) {
            // The eight bits below the byte that the bit is in stay 0.
            long text = at < 16 ? 0 : Due.packed("mmmmmm") & (1L << at / 8 * 8 - 8) - 1;
            due.is("put(the bit " + at + " above a 0)", x.put(text | 1L << at), -2);
            due.is("put(a character above a 0)", x.put(text | 112L << at / 8 * 8), -2);
        }
        due.is("put(p and 0)", x.put(0x7000), -2);
        due.is("put(a far bit)", x.put(0x0100000000000070L), -2);
        due.is("put(the highest bit)", x.put(Long.MIN_VALUE | 0x70), -2);
        due.is("put(-1)", x.put(-1), -2);
        due.is("count(5)", x.count(5), 0);
        due.is("put(seven)", x.put(Due.packed("ppppppp")), 7);
    }

    private static void theLowest8BitsAreTheLast() {
        Due due = new Due("promise 21, the lowest 8 bits are the last character");
        TokenNets x = new TokenNets();
        x.put(('p' << 8) + '1');
        due.is("fault() of p1", x.fault(), -6);
        x.wipe();
        x.put(('1' << 8) + 'p');
        due.is("fault() of 1p", x.fault(), 0);
        x.wipe();
        x.put(Due.packed("p12;p345"));
        due.is("carryOut() of eight", x.carryOut(), 2);
        due.is("ofPlace(0, 0)", x.ofPlace(0, 0), 12);
        due.is("ofPlace(1, 0)", x.ofPlace(1, 0), 345);
    }

    private static void atMost80Characters() {
        Due due = new Due("promise 21, at most 80 characters");
        for (int last = 1; last <= 8; last++) {
            TokenNets x = new TokenNets();
            Due.write(x, "m;m;m;m;".repeat(9));
            Due.write(x, "mmmmmmmm".substring(last));
            due.is("count(5)", x.count(5), 80 - last);
            if (last < 8) {
                due.is("put() of one too many", x.put(Due.packed("mmmmmmmm".substring(7 - last))), -4);
            }
            due.is("count(5), none of it is there", x.count(5), 80 - last);
            due.is("put() of just so many", x.put(Due.packed("mmmmmmmm".substring(8 - last))), 80);
            due.is("put() of one more", x.put('m'), -4);
            due.is("put() of none", x.put(0), -2);
            due.is("put() of a wrong one", x.put(127), -2);
            due.is("wipe()", x.wipe(), 80);
            due.is("put() of one", x.put('m'), 1);
        }
    }

    private static void wipeTellsTheLength() {
        Due due = new Due("promise 22, the length that it had");
        TokenNets x = new TokenNets();
        due.is("wipe() of nothing", x.wipe(), 0);
        x.put('x');
        due.is("wipe() of one", x.wipe(), 1);
        due.is("wipe() again", x.wipe(), 0);
        due.is("count(5)", x.count(5), 0);
        due.is("count(6), it is no change", x.count(6), 0);
        due.is("fault()", x.fault(), 0);
        x.put('m');
        due.is("fault(), what was there is gone", x.fault(), -6);
    }

    // ---- the fault

    private static void endsTooEarly() {
        for (String text : new String[] {"", "p", "m<", "m>", "m<0*", "m>0*", "m<0,", "m>0,", "m<0>", "m<0*1>", "!", "=", "=1", "=1:",
                "p1;", "m;", "!0;", "=0:0;", "m<0;", "m>0*9;", "p1;p", "p1;m<", "p1;=1:"}) {
            fault("the text ends too early", text, text.length());
        }
    }

    private static void numbersFrom0To999() {
        for (String order : new String[] {"p", "=0:", "m;p", "p999;=9:"}) {
            int at = order.length();
            good("numbers 0 to 999", order + "0", order + "1", order + "9", order + "10", order + "99", order + "100", order + "999");
            fault("a digit by which a number would be above 999", order + "1000", at + 3);
            fault("a digit by which a number would be above 999", order + "9999", at + 3);
            fault("a digit by which a number would be above 999", order + "99999", at + 3);
            fault("no leading zeros", order + "00", at + 1);
            fault("no leading zeros", order + "01", at + 1);
            fault("no leading zeros", order + "0999", at + 1);
            fault("no sign", order + "-1", at);
            fault("no sign", order + "+1", at);
        }
    }

    private static void digitsFrom0To9() {
        good("a digit 0 to 9", "!0", "!9", "=0:1", "=9:1", "m<0", "m<9", "m>0", "m>9", "m<0*0", "m<9*9", "m>0*0", "m>9*9");
        for (char other : new char[] {'/', ':', 'a', '!', '~'}) {
            fault("a digit 0 to 9", "!" + other, 1);
            fault("a digit 0 to 9", "=" + other, 1);
            fault("a digit 0 to 9", "m<" + other, 2);
            fault("a digit 0 to 9", "m>" + other, 2);
            fault("a digit 0 to 9", "m<0*" + other, 4);
            fault("a digit 0 to 9", "m>0*" + other, 4);
            fault("a digit 0 to 9", "p" + other, 1);
            fault("a digit 0 to 9", "p1" + other, 2);
            fault("a digit 0 to 9", "p12" + other, 3);
            fault("a digit 0 to 9", "p123" + other, 4);
            fault("a digit 0 to 9", "=0:" + other, 3);
        }
        fault("one digit", "!00", 2);
        fault("one digit", "=00:1", 2);
        fault("one digit", "m<00", 3);
        fault("one digit", "m>10", 3);
        fault("one digit", "m<0*10", 5);
        fault("one digit", "m>0*10", 5);
    }

    /** Each character that may be on a pad, where a text begins, and behind each order. */
    private static void eachCharacter() {
        for (char sign = 33; sign <= 126; sign++) {
            boolean begins = sign == 'p' || sign == 'm' || sign == '!' || sign == '=';
            fault("an order begins", "" + sign, begins ? sign == 'm' ? -6 : 1 : 0);
            fault("an order begins after another one", "m;" + sign, begins ? sign == 'm' ? -6 : 3 : 2);
            if (sign != ';') {
                fault("behind p0", "p0" + sign, 2);
                fault("behind !0", "!0" + sign, 2);
                fault("behind =0:0", "=0:0" + sign, 4);
                fault("behind m", "m" + sign, sign == '<' || sign == '>' ? 2 : 1);
                fault("behind m<0", "m<0" + sign, sign == ',' || sign == '>' || sign == '*' ? 4 : 3);
                fault("behind m<0*2", "m<0*2" + sign, sign == ',' || sign == '>' ? 6 : 5);
                fault("behind m>0", "m>0" + sign, sign == ',' || sign == '*' ? 4 : 3);
                fault("behind m>0*2", "m>0*2" + sign, sign == ',' ? 6 : 5);
                fault("behind =0", "=0" + sign, sign == ':' ? 3 : 2);
            }
        }
    }

    private static void listsOfPlaces() {
        good("lists of places", "m", "m<0", "m>0", "m<0>0", "m<0,0>0,0", "m<0*1,1>2,3*4", "m<0,1,2,3,4,5,6,7,8,9>9,8,7,6,5,4,3,2,1,0");
        fault("an empty list", "m<>0", 2);
        fault("an empty list", "m<;p1", 2);
        fault("an empty list", "m>;p1", 2);
        fault("an empty place", "m<,0", 2);
        fault("an empty place", "m<0,,1", 4);
        fault("an empty place", "m<0,>1", 4);
        fault("an empty place", "m>0,;p1", 4);
        fault("the lists the other way round", "m>0<1", 3);
        fault("a list twice", "m<0<1", 3);
        fault("a list twice", "m>0>1", 3);
        fault("two stars", "m<0**2", 4);
        fault("two stars", "m<0*2*2", 5);
        fault("a star without a place", "m<*2", 2);
        fault("a star without a list", "m*2", 1);
    }

    private static void whatIsThereDoesNotMatter() {
        good("whether there are such places and moves does not matter", "!9", "=9:999", "m<9>9", "m<8*9,7>6");
        TokenNets x = Due.net("p1;p1;p1;p1;p1;p1;p1;p1;m;m;m;m;m;m;m;m");
        Due.write(x, "p1;m;!9;=9:0");
        new Due("texts, no place is free").is("fault()", x.fault(), -6);
    }

    private static void theFirstFaultOfSeveral() {
        fault("the first character that cannot stand", "x1;y2", 0);
        fault("the first character that cannot stand", "p1;y2;z", 3);
        fault("the first character that cannot stand", "p1000;", 4);
        fault("the first character that cannot stand", ";;", 0);
        fault("the first character that cannot stand", "p1;;", 3);
        fault("the first character that cannot stand", "p1;p2;;p3", 6);
        String full = "p1;".repeat(26);
        fault("the last of 80", full + "p1", -6);
        fault("the last of 80", full + "pp", 79);
        fault("the last of 80", full + "m;", 80);
        fault("the last of 80", full + "m<", 80);
        fault("the last of 80", full + "!x", 79);
    }

    private static void theFaultIsThatOfNow() {
        Due due = new Due("promise 23, as the pad grows");
        TokenNets x = new TokenNets();
        String text = "p123;m<0*1?";
        int[] want = {1, -6, -6, -6, 5, -6, 7, -6, 9, -6, 10};
        for (int i = 0; i < text.length(); i++) {
            x.put(text.charAt(i));
            due.is("fault() of " + text.substring(0, i + 1), x.fault(), want[i]);
        }
        due.is("count(6)", x.count(6), 0);
    }

    // ---- carrying out

    private static void oneTokenOrAsManyAsTold() {
        Due due = new Due("texts, one token, or as many as the digit tells");
        TokenNets x = Due.net("p1;p1;p1;m<0,1*0,2*9>0*9,1,2*0");
        due.is("ofArc(0, 0, 0)", x.ofArc(0, 0, 0), 1);
        due.is("ofArc(0, 1, 0)", x.ofArc(0, 1, 0), 0);
        due.is("ofArc(0, 2, 0)", x.ofArc(0, 2, 0), 9);
        due.is("ofArc(0, 0, 1)", x.ofArc(0, 0, 1), 9);
        due.is("ofArc(0, 1, 1)", x.ofArc(0, 1, 1), 1);
        due.is("ofArc(0, 2, 1)", x.ofArc(0, 2, 1), 0);
    }

    private static void aPlaceToldTwice() {
        Due due = new Due("texts, of a place that is told twice in one list the last one counts");
        TokenNets x = Due.net("p1;p1;m<0*5,0;m<0,0*5;m<0*5,1,0*0;m>0*5,0,0*3;m<0*2>0*7;m>1,0*9,1*0");
        due.is("ofArc(0, 0, 0), not told how many", x.ofArc(0, 0, 0), 1);
        due.is("ofArc(1, 0, 0)", x.ofArc(1, 0, 0), 5);
        due.is("ofArc(2, 0, 0), none", x.ofArc(2, 0, 0), 0);
        due.is("ofArc(2, 1, 0)", x.ofArc(2, 1, 0), 1);
        due.is("ofArc(3, 0, 1), three times", x.ofArc(3, 0, 1), 3);
        due.is("ofArc(4, 0, 0), once in each list", x.ofArc(4, 0, 0), 2);
        due.is("ofArc(4, 0, 1), once in each list", x.ofArc(4, 0, 1), 7);
        due.is("ofArc(5, 1, 1), none", x.ofArc(5, 1, 1), 0);
        due.is("ofArc(5, 0, 1)", x.ofArc(5, 0, 1), 9);
    }

    private static void aPlaceThatIsNotThere() {
        for (String order : new String[] {"m<2", "m>2", "m<0,2", "m>0,2", "m<2,0", "m<0>2", "m<2>0", "m<2*0", "m>1,2*0", "m<8", "m>9",
                "m<0>1,0,1,9*0"}) {
            Due due = new Due("texts, no move comes by " + order);
            TokenNets x = Due.net("p1;p1;m");
            Due.write(x, "p5;" + order.replace('2', '3') + ";p6");
            due.is("carryOut() behind another order", x.carryOut(), 1);
            due.is("count(1)", x.count(1), 1);
            due.is("count(0)", x.count(0), 3);
            x.undo();
            Due.write(x, order);
            due.is("carryOut()", x.carryOut(), 0);
            due.is("count(1)", x.count(1), 1);
            due.is("count(5)", x.count(5), 0);
            due.is("count(6)", x.count(6), 2);
            due.is("move()", x.move(), 1);
            due.is("ofMove(1, 2), nothing of it is left", x.ofMove(1, 2), 0);
            due.is("ofMove(1, 3), nothing of it is left", x.ofMove(1, 3), 0);
        }
    }

    private static void whatComesInTheTextIsThere() {
        Due due = new Due("texts, places and moves of orders before");
        TokenNets x = Due.net("p1;m<0;!0;=0:1;!0;p3;m<1>0;!1");
        due.is("count(0)", x.count(0), 2);
        due.is("count(1)", x.count(1), 2);
        due.is("ofPlace(0, 0)", x.ofPlace(0, 0), 1);
        due.is("ofPlace(1, 0)", x.ofPlace(1, 0), 2);
        due.is("ofMove(0, 1)", x.ofMove(0, 1), 2);
        due.is("ofMove(1, 1)", x.ofMove(1, 1), 1);
    }

    /** It ends with the order that answers an error: so many before it are carried out, and none behind it. */
    private static void upToTheFirstError() {
        String[][] texts = {
            {"!1;p7", "0"}, {"m;!2;p7", "1"}, {"!0;!0;p7", "1"}, {"=0:2;!0;!0;!0;p7", "3"}, {"=1:0;p7", "0"},
            {"p2;=2:1;p7", "1"}, {"p0;p0;p0;p0;p0;p0;p0;p0;p7", "7"}, {"m;m;m;m;m;m;m;m;p7", "7"}, {"!9;p7", "0"}, {"=9:9;p7", "0"},
            {"!8;p7", "0"}, {"=8:9;p7", "0"}, {"m<1;p7", "0"}
        };
        for (String[] text : texts) {
            Due due = new Due("promise 24, up to the first error of " + text[0]);
            TokenNets x = Due.net("p1;m<0");
            Due.write(x, text[0]);
            due.is("carryOut()", x.carryOut(), Integer.parseInt(text[1]));
            due.is("count(5)", x.count(5), 0);
            due.is("count(6)", x.count(6), 2);
            for (int p = 0; p < 8; p++) {
                due.is("ofPlace(" + p + ", 0) is not 7", x.ofPlace(p, 0) == 7 ? 1 : 0, 0);
            }
            due.is("undo()", x.undo(), 1);
            due.is("count(0)", x.count(0), 1);
            due.is("count(1)", x.count(1), 1);
            due.is("count(4)", x.count(4), 0);
            due.is("ofPlace(0, 0)", x.ofPlace(0, 0), 1);
        }
    }

    private static void aTextWithAFaultStays() {
        Due due = new Due("promise 24, BAD_TEXT, and the pad stays");
        TokenNets x = new TokenNets();
        due.is("carryOut() of nothing", x.carryOut(), -3);
        Due.write(x, "p1;p2;");
        due.is("carryOut()", x.carryOut(), -3);
        due.is("count(0), none is carried out", x.count(0), 0);
        due.is("count(5)", x.count(5), 6);
        due.is("count(6), it is no change", x.count(6), 0);
        x.put('m');
        due.is("carryOut(), as it goes on", x.carryOut(), 3);
        due.is("carryOut() once more, the pad is empty", x.carryOut(), -3);
        due.is("count(6)", x.count(6), 1);
    }

    private static void oneChangeWithAllOfThem() {
        Due due = new Due("promise 24, one change, also if none is carried out");
        TokenNets x = Due.net("p1;m");
        x.tokens(0, 2);
        Due.write(x, "!0;!0;!0;!0;!0;!0;!0;!0");
        due.is("carryOut() of eight", x.carryOut(), 8);
        due.is("count(6)", x.count(6), 3);
        Due.write(x, "!1");
        due.is("carryOut() of none", x.carryOut(), 0);
        due.is("count(6)", x.count(6), 4);
        due.is("undo() of none", x.undo(), 3);
        due.is("count(4)", x.count(4), 8);
        due.is("undo() of eight", x.undo(), 2);
        due.is("count(4)", x.count(4), 0);
        due.is("ofPlace(0, 0)", x.ofPlace(0, 0), 2);
        due.is("undo() of tokens", x.undo(), 1);
        due.is("ofPlace(0, 0)", x.ofPlace(0, 0), 1);
    }

    private static void asManyOrdersAsThereIsRoomFor() {
        Due due = new Due("promise 24, a pad of 80 characters");
        TokenNets x = Due.net("p0;p0;m>0");
        Due.write(x, "m>0*2,1;!1;" + "!0;".repeat(22) + "!1;");
        due.is("carryOut(), it ends too early", x.carryOut(), -3);
        due.is("count(5)", x.count(5), 80);
        x.wipe();
        Due.write(x, "m>0*2,1;!1;" + "!0;".repeat(22) + "!1");
        due.is("count(5)", x.count(5), 79);
        due.is("carryOut()", x.carryOut(), 25);
        due.is("ofPlace(0, 0)", x.ofPlace(0, 0), 26);
        due.is("ofPlace(1, 0)", x.ofPlace(1, 0), 2);
        // All of one order.
        Due.write(x, "m<" + "0,".repeat(36) + "1>0*7");
        due.is("carryOut() of one long order", x.carryOut(), 1);
        due.is("ofArc(2, 1, 0)", x.ofArc(2, 1, 0), 1);
        due.is("ofArc(2, 0, 1)", x.ofArc(2, 0, 1), 7);
        Due.write(x, "m<" + "0,".repeat(36) + "1>1*78");
        due.is("count(5)", x.count(5), 80);
        due.is("fault()", x.fault(), 79);
        x.wipe();
        Due.write(x, "m>" + "0*1,".repeat(19) + "0*");
        due.is("count(5)", x.count(5), 80);
        due.is("fault(), the length", x.fault(), 80);
        x.wipe();
        Due.write(x, "p1;m>" + "0*1,".repeat(18) + "1*8");
        due.is("count(5)", x.count(5), 80);
        due.is("carryOut()", x.carryOut(), 2);
        due.is("ofArc(3, 1, 1)", x.ofArc(3, 1, 1), 8);
        Due.write(x, "m>" + "0*1,".repeat(19) + "1");
        due.is("count(5)", x.count(5), 79);
        due.is("carryOut()", x.carryOut(), 1);
        due.is("ofArc(4, 1, 1), nothing stands behind it", x.ofArc(4, 1, 1), 1);
    }

    /** What a longer text left behind on the pad is not read any more. */
    private static void whatWasThereBefore() {
        Due due = new Due("promises 22 and 24, what was on the pad before");
        TokenNets x = Due.net("p1;p1;m;m");
        Due.write(x, "m<0*7,1*7");
        x.wipe();
        Due.write(x, "m<0");
        due.is("fault()", x.fault(), -6);
        due.is("carryOut()", x.carryOut(), 1);
        due.is("ofArc(2, 0, 0)", x.ofArc(2, 0, 0), 1);
        due.is("ofArc(2, 1, 0)", x.ofArc(2, 1, 0), 0);
        Due.write(x, "p999");
        x.wipe();
        Due.write(x, "p1");
        due.is("carryOut()", x.carryOut(), 1);
        due.is("ofPlace(2, 0)", x.ofPlace(2, 0), 1);
        Due.write(x, "!0;!1");
        x.wipe();
        Due.write(x, "!0");
        due.is("carryOut()", x.carryOut(), 1);
        due.is("ofMove(1, 1)", x.ofMove(1, 1), 0);
    }

    public static void main(String[] args) {
        oneToEightCharacters();
        codesFrom33To126();
        nothingAboveAZero();
        theLowest8BitsAreTheLast();
        atMost80Characters();
        wipeTellsTheLength();
        endsTooEarly();
        numbersFrom0To999();
        digitsFrom0To9();
        eachCharacter();
        listsOfPlaces();
        whatIsThereDoesNotMatter();
        theFirstFaultOfSeveral();
        theFaultIsThatOfNow();
        oneTokenOrAsManyAsTold();
        aPlaceToldTwice();
        aPlaceThatIsNotThere();
        whatComesInTheTextIsThere();
        upToTheFirstError();
        aTextWithAFaultStays();
        oneChangeWithAllOfThem();
        asManyOrdersAsThereIsRoomFor();
        whatWasThereBefore();
        Due.end();
    }
}
