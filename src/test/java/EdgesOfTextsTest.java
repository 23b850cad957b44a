/** Promises 27 to 31, sentence by sentence: at each bound, and on either side of it. */
public final class EdgesOfTextsTest {
    private static final int BAD = TurtleBet.BAD, FULL = TurtleBet.FULL, NONE = TurtleBet.NONE;

    public static void main(String[] args) {
        feeds();
        feedsUpTo96();
        feedsHighestFirst();
        trims();
        fourteenAtMost();
        lastTold();
        keys();
        words();
        bytes();
        numbers();
        namesOfKeys();
        blanks();
        endsTooSoon();
        firstOfSeveralFaults();
        oneTestAlone();
        ninthOpen();
        ninthNot();
        eachByItself();
        looseness();
        wraps();
        byZero();
        tests();
        truths();
        longestTexts();
        counted();
        countedBehindFaults();
        namesAtTheirBounds();
        Due.end();
    }

    private static void fault(String text, int place) {
        TurtleBet b = new TurtleBet();
        Due.due("<" + text + ">", Due.text(b, text), -100 - place);
        Due.due("<" + text + "> is used up", b.count(10), 0);
        Due.due("<" + text + "> is no text", b.count(8), 0);
    }

    private static void right(String text) {
        TurtleBet b = new TurtleBet();
        Due.due("<" + text + ">", Due.text(b, text), 0);
        Due.due("<" + text + "> is used up", b.count(10), 0);
        Due.due("<" + text + "> is a text", b.count(8), 1);
    }

    /** What a text of the key fine gives for a turtle of pace 7 with -3 laps. */
    private static void gives(String e, int want) {
        TurtleBet b = new TurtleBet();
        b.turtle(0, 7);
        b.set(0, 2, -250);
        Due.due("fine " + e, Due.text(b, "fine " + e), 0);
        Due.due(e, b.fine(0), want);
    }

    /** "Twelve bytes come to THE TAPE ..: how many it has." */
    private static void feeds() {
        TurtleBet b = new TurtleBet();
        for (int many = 12; many <= 96; many += 12) {
            Due.due("feed", b.feed(-1, Integer.MIN_VALUE, Integer.MAX_VALUE), many);
            Due.due("bytes", b.count(10), many);
        }
        for (int i = 0; i < 3; i++) {
            Due.due("the 97th", b.feed(0, 0, 0), FULL);
            Due.due("bytes", b.count(10), 96);
        }
    }

    /** "FULL: it would have more than 96." */
    private static void feedsUpTo96() {
        for (int there = 0; there <= 96; there++) {
            TurtleBet b = new TurtleBet();
            for (int i = 0; i < 8; i++) {
                b.feed(0, 0, 0);
            }
            b.trim(there);
            Due.due("feed behind " + there, b.feed(0, 0, 0), there + 12 <= 96 ? there + 12 : FULL);
            Due.due("bytes behind " + there, b.count(10), there + 12 <= 96 ? there + 12 : there);
        }
        Edge.same("a refused feed leaves the bytes", b -> {
            Due.onTape(b, "fine 1" + " ".repeat(79));
            b.feed(0x20202020, 0x20202020, 0x2b2b2b2b);
        }, b -> Due.onTape(b, "fine 1" + " ".repeat(79)));
    }

    /** "the highest of each number first": each of the twelve bytes stands at its own place. */
    private static void feedsHighestFirst() {
        for (int place = 0; place < 12; place++) {
            for (int wrong : new int[] {1, 127, 128, 255}) {
                int[] four = {0x66696e65, 0x20302b31, 0x2b322b33};
                int shift = 24 - 8 * (place % 4);
                four[place / 4] = four[place / 4] & ~(255 << shift) | wrong << shift;
                TurtleBet b = new TurtleBet();
                b.feed(four[0], four[1], four[2]);
                // Within the key its word ends too soon, so that the whole word is wrong.
                Due.due("byte " + wrong + " at " + place, b.text(), -100 - (place < 4 ? 0 : place));
            }
        }
        TurtleBet b = new TurtleBet();
        b.turtle(0, 0);
        b.feed(0x66696e65, 0x20302b31, 0x2b322b33);
        Due.due("all twelve", b.text(), 0);
        Due.due("0+1+2+3", b.fine(0), 6);
    }

    /** "THE TAPE keeps its first n bytes: n. BAD." */
    private static void trims() {
        Edge.bounds("trim of 7", 0, 7, Edge::some, (b, v) -> b.trim(v), v -> v);
        Edge.bounds("trim of 96", 0, 96, Edge::full, (b, v) -> b.trim(v), v -> v);
        Edge.bounds("trim of none", 0, 0, Edge::empty, (b, v) -> b.trim(v), v -> v);
        TurtleBet b = new TurtleBet();
        b.turtle(0, 0);
        Due.onTape(b, "fine 123456");
        Due.due("its first 9", b.trim(9), 9);
        Due.due("9 bytes", b.count(10), 9);
        Due.due("no more than it has", b.trim(10), BAD);
        b.text();
        Due.due("1234", b.fine(0), 1234);
        Due.due("used up", b.trim(1), BAD);
        Due.onTape(b, "fine 1");
        b.trim(6);
        b.feed(0x39202020, 0x20202020, 0x20202020);
        Due.due("fed behind what was trimmed", b.count(10), 18);
        b.text();
        Due.due("19", b.fine(0), 19);
    }

    /** "TEXTS, 14 at most, numbered from 0"; FULL. */
    private static void fourteenAtMost() {
        TurtleBet b = new TurtleBet();
        b.turtle(0, 0);
        for (int i = 0; i < 14; i++) {
            Due.due("not there yet", b.textTold(i, 0), BAD);
            Due.due("text", Due.text(b, "fine " + (20 + i)), i);
            Due.due("how many", b.count(8), i + 1);
            Due.due("why", b.why(2), i);
            Due.due("fine", b.fine(0), 20 + i);
        }
        Due.due("the fifteenth", Due.text(b, "fine 77"), FULL);
        Due.due("the fifteenth of another key", Due.text(b, "pace 7"), FULL);
        Due.due("a fault ahead of it", Due.text(b, "fine 7 7"), -107);
        Due.due("how many", b.count(8), 14);
        Due.due("why", b.why(2), 13);
        Due.due("why pace", b.why(0), NONE);
        Due.due("fine", b.fine(0), 33);
        Due.due("no text 14", b.textTold(14, 0), BAD);
    }

    /** "Of a KEY that TEXT counts that was told last." */
    private static void lastTold() {
        TurtleBet b = new TurtleBet();
        b.turtle(0, 9);
        b.wager(0, 0, 50);
        int[] due = {NONE, NONE, NONE};
        String[] keys = {"pace ", "pay ", "fine "};
        int[] order = {1, 0, 2, 2, 0, 1, 1, 0, 2};
        for (int i = 0; i < order.length; i++) {
            Due.text(b, keys[order[i]] + (10 + i));
            due[order[i]] = i;
            for (int key = 0; key < 3; key++) {
                Due.due("why " + key, b.why(key), due[key]);
            }
            Due.due("step", b.step(0, 0), due[0] == NONE ? 9 : 10 + due[0]);
            Due.due("pays", b.pays(0, 0), due[1] == NONE ? 50 : 10 + due[1]);
            Due.due("fine", b.fine(0), due[2] == NONE ? 0 : 10 + due[2]);
        }
        Due.text(b, "pay 1 +");
        Due.due("a fault does not count", b.why(1), 6);
    }

    /** "KEY: pace | pay | fine." */
    private static void keys() {
        right("pace 1");
        right("pay 1");
        right("fine 1");
        for (String wrong : new String[] {"p", "pa", "pac", "pac3", "paces", "pacf", "pax", "pays", "payx", "fin", "fines", "fini", "PACE",
            "Pace", "a", "z", "paced", "pface", "xpace", "1pace", "9", "!", "(", "+", "=", "pacepay"}) {
            fault(wrong + " 1", 0);
            fault(" " + wrong + " 1", 1);
        }
        fault("pace pace 1", 5);
        fault("pace pay", 5);
        fault("pay fine 1", 4);
        fault("pace=1", 4);
        fault("pace)1", 4);
    }

    /** "A word is a row of letters a .. z, or of digits, as long as it goes .. a word right behind another one needs one." */
    private static void words() {
        fault("pace1", 4);
        right("pace 1");
        fault("pacep", 0);
        right("pace p");
        fault("pace 1p", 6);
        fault("pace 1 p", 7);
        fault("pace p1", 6);
        fault("pace p 1", 7);
        fault("pace 1 2", 7);
        fault("pace pp", 5);
        fault("pace p p", 7);
        fault("pace 1+1p", 8);
        fault("pace 1+p1", 8);
        fault("pace (1p)", 7);
        fault("fine1234l", 4);
        fault("fine12345", 4);
        fault("pay1", 3);
        right("pay(1)");
        right("pay!1");
        right("pay(s)*2");
        fault("pay(s)2", 6);
        fault("pay(s)(2)", 6);
        fault("pay(s)!2", 6);
        fault("pay 2(s)", 5);
        fault("pay 2!s", 5);
    }

    /** Every byte behind a whole text, and ahead of one: letters, digits, blanks and signs end where they should. */
    private static void bytes() {
        for (int c = 0; c < 256; c++) {
            boolean digit = c >= '0' && c <= '9';
            boolean joins = c < 128 && "|&<=>+-*/".indexOf(c) >= 0;
            String sign = String.valueOf((char) c);
            Due.due("byte " + c + " behind", Due.text(new TurtleBet(), "fine 1" + sign), c == 32 || digit ? 0 : joins ? -107 : -106);
            Due.due("byte " + c + " behind a blank", Due.text(new TurtleBet(), "fine 1 " + sign), c == 32 ? 0 : joins ? -108 : -107);
            Due.due("byte " + c + " ahead", Due.text(new TurtleBet(), sign + "fine 1"), c == 32 ? 0 : -100);
            boolean between = c == 32 || c == '!';
            boolean letter = c >= 'a' && c <= 'z';
            Due.due("byte " + c + " between", Due.text(new TurtleBet(), "fine" + sign + "1"),
                    between ? 0 : c == '(' ? -106 : letter ? -100 : -104);
            Due.due("byte " + c + " joins", Due.text(new TurtleBet(), "fine 1" + sign + "1"), joins || digit ? 0 : c == 32 ? -107 : -106);
        }
    }

    /** "NUMBER (1 to 4 digits)". */
    private static void numbers() {
        gives("0", 0);
        gives("9", 9);
        gives("10", 10);
        gives("999", 999);
        gives("1000", 1000);
        gives("9999", 9999);
        gives("0000", 0);
        gives("0009", 9);
        fault("fine 10000", 5);
        fault("fine 00000", 5);
        fault("fine 00001", 5);
        fault("fine 99999", 5);
        fault("fine 1+12345", 7);
        fault("fine 1+(12345", 8);
        fault("fine 999999999999999999999", 5);
        fault("fine -1", 5);
    }

    /** "NAMES, each one letter: of pace p, a, c, x; of pay w, s, t; of fine l, p". */
    private static void namesOfKeys() {
        String[] keys = {"pace", "pay", "fine"};
        String[] names = {"pacx", "wst", "lp"};
        for (int key = 0; key < 3; key++) {
            for (char c = 'a'; c <= 'z'; c++) {
                if (names[key].indexOf(c) >= 0) {
                    right(keys[key] + " " + c);
                    fault(keys[key] + " " + c + c, keys[key].length() + 1);
                } else {
                    fault(keys[key] + " " + c, keys[key].length() + 1);
                }
                fault(keys[key] + " " + (char) (c - 32), keys[key].length() + 1);
            }
        }
    }

    /** "Between words and signs, and at the ends, there may be blanks (byte 32)". */
    private static void blanks() {
        right("   fine   (   1   +   !   l   )   *   2   <   3   &   4   |   5   ");
        right("fine(1+!l)*2<3&4|5");
        right("fine" + " ".repeat(91) + "1");
        right(" ".repeat(90) + "fine 1");
        right("fine 1" + " ".repeat(90));
        fault("fi ne 1", 0);
        fault("fine 1 2", 7);
        fault("fine" + (char) 9 + "1", 4);
        fault("fine 1" + (char) 10, 6);
        fault("fine 1" + (char) 31, 6);
        fault("fine 1" + (char) 160, 6);
        fault("fine 1" + (char) 0, 6);
    }

    /** "the end (the place behind the last byte), if it comes too soon." */
    private static void endsTooSoon() {
        for (String begun : new String[] {"", "fine", "fine ", "fine (", "fine (1", "fine (1 ", "fine 1+", "fine 1 + ", "fine !", "fine ! ",
            "fine 1&", "fine 1|", "fine 1<", "fine 1=", "fine 1>", "fine 1*", "fine 1/", "fine 1-", "fine ((1)", "fine (1+(2)",
            "fine ((((((((", "fine !!!!!!!!", " ", "     "}) {
            fault(begun, begun.length());
            fault(begun + "   ", begun.length() + 3);
        }
        fault(" ".repeat(96), 96);
        fault(" ".repeat(92) + "fine", 96);
        fault("fine 1+" + " ".repeat(89), 96);
        fault("fine (1" + " ".repeat(89), 96);
    }

    /** "the first byte of the first word or sign with which no TEXT goes on". */
    private static void firstOfSeveralFaults() {
        fault("fine + + 12345 ((", 5);
        fault("fine 1 + 12345 ((", 9);
        fault("fine ) (", 5);
        fault("pine 12345", 0);
        fault("fine 1)", 6);
        fault("fine (1))", 8);
        fault("fine ()", 6);
        fault("fine (1 1", 8);
        fault("fine (+", 6);
        fault("fine 1 ? 2 ? 3", 7);
        fault("fine 1 + ? 3", 9);
        fault("fine 1 + w", 9);
        fault("fine 1 + lp", 9);
        fault("fine !)", 6);
        fault("fine !+1", 6);
        fault("fine 1++1", 7);
        fault("fine 1+-1", 7);
        fault("fine 1*/1", 7);
        fault("fine 1&&1", 7);
        fault("fine 1||1", 7);
        fault("fine 1!=1", 6);
        fault("fine 1<>1", 7);
    }

    /** "TEST: SUM [ (< | = | >) SUM ]": one at most, but for those within ( ). */
    private static void oneTestAlone() {
        for (String one : new String[] {"<", "=", ">"}) {
            for (String other : new String[] {"<", "=", ">"}) {
                right("fine 1" + one + "2");
                fault("fine 1" + one + "2" + other + "3", 8);
                fault("fine 1" + one + other + "3", 7);
                right("fine (1" + one + "2)" + other + "3");
                right("fine 1" + one + "(2" + other + "3)");
                right("fine 1" + one + "2&3" + other + "4|5" + one + "6");
                fault("fine 1&2" + one + "3+4" + other + "5", 12);
            }
        }
    }

    /** "the ninth ( that would be open within others". */
    private static void ninthOpen() {
        for (int open = 1; open <= 12; open++) {
            String text = "fine " + "(".repeat(open) + "1" + ")".repeat(open);
            if (open <= 8) {
                gives("(".repeat(open) + "5" + ")".repeat(open), 5);
            } else {
                fault(text, 13);
            }
        }
        fault("fine 1+((((((((2*(3))))))))) ", 17);
        right("fine 1+((((((((2*3)))))))) ");
        right("fine ((((((((1))))))))+((((((((1))))))))");
        right("fine (((((((1)+(1))))))) * (1)");
        right("fine ((((((((1)+(1))))))))");
        fault("fine ((((((((1)+((1))))))))", 17);
    }

    /** "the ninth ! likewise". */
    private static void ninthNot() {
        for (int open = 1; open <= 12; open++) {
            if (open <= 8) {
                gives("!".repeat(open) + "5", open % 2 == 0 ? 1 : 0);
            } else {
                fault("fine " + "!".repeat(open) + "1", 13);
            }
        }
        right("fine !!!!!!!!1+!!!!!!!!1");
        fault("fine !!!!!!!!1+!!!!!!!!!1", 23);
        right("fine !!!!!!!(!1&!1)");
        fault("fine !!!!!!!(!!1)", 14);
        right("fine !!!!!!!(1)+!!!!!!!!1");
    }

    /** "each by itself": eight of both are open at once. */
    private static void eachByItself() {
        right("fine !(!(!(!(!(!(!(!(1))))))))");
        right("fine ((((((((!!!!!!!!1))))))))");
        right("fine !!!!!!!!((((((((1))))))))");
        fault("fine ((((((((!!!!!!!!!1))))))))", 21);
        fault("fine !!!!!!!!(((((((((1)))))))))", 21);
        fault("fine !(!(!(!(!(!(!(!((1)))))))))", 21);
        fault("fine !(!(!(!(!(!(!(!(!1))))))))", 21);
    }

    /** "E, the loosest first": OR, AND, TEST, SUM, TERM, PIECE; from the left on. */
    private static void looseness() {
        gives("1|0&0", 1);
        gives("0&0|1", 1);
        gives("0&1=0", 0);
        gives("0=0&1", 1);
        gives("1=2-1", 1);
        gives("2-1=1", 1);
        gives("2+3*4", 14);
        gives("2*3+4", 10);
        gives("10-2*3", 4);
        gives("10-6/3", 8);
        gives("!1*5", 0);
        gives("!0+5", 6);
        gives("!1=1", 0);
        gives("10-3-2", 5);
        gives("10-3+2", 9);
        gives("100/5/2", 10);
        gives("100/5*2", 40);
        gives("7*2/4", 3);
        gives("7/4*2", 2);
        gives("2|0=2", 1);
        gives("(2|0)=2", 0);
        gives("(2|0)=1", 1);
        gives("1<2&2<1|3", 1);
        gives("1<2&(2<1|3)", 1);
        gives("1<2&2<1|0", 0);
    }

    /** "Ints wrap". */
    private static void wraps() {
        gives("8192*8192*64-1", -1);
        gives("8192*8192*32", Integer.MIN_VALUE);
        gives("8192*8192*32-1", Integer.MAX_VALUE);
        gives("8192*8192*32-1+1", Integer.MIN_VALUE);
        gives("8192*8192*64", 0);
        gives("0-8192*8192*32", Integer.MIN_VALUE);
        gives("8192*8192*32/(0-1)", Integer.MIN_VALUE);
        gives("8192*8192*32*(0-1)", Integer.MIN_VALUE);
        gives("9999*9999*9999", 9999 * 9999 * 9999);
        gives("8192*8192*32<0", 1);
        gives("8192*8192*32-1>0", 1);
    }

    /** "/ cuts towards 0", "/ is 0 by 0". */
    private static void byZero() {
        gives("5/0", 0);
        gives("0/0", 0);
        gives("l/0", 0);
        gives("5/(1-1)", 0);
        gives("5/0+3", 3);
        gives("5/(1/0)", 0);
        gives("0/5", 0);
        gives("4/5", 0);
        gives("5/5", 1);
        gives("9/5", 1);
        gives("10/5", 2);
        gives("l/2", -1);
        gives("l/3", -1);
        gives("l/4", 0);
        gives("p/l", -2);
        gives("l/l", 1);
        gives("(0-7)/(0-2)", 3);
    }

    /** "tests .. give 1 or 0". */
    private static void tests() {
        for (int left = -1; left <= 1; left++) {
            for (int right = -1; right <= 1; right++) {
                String both = (left < 0 ? "(0-1)" : "" + left) + "%" + (right < 0 ? "(0-1)" : "" + right);
                gives(both.replace('%', '<'), left < right ? 1 : 0);
                gives(both.replace('%', '='), left == right ? 1 : 0);
                gives(both.replace('%', '>'), left > right ? 1 : 0);
            }
        }
        gives("8192*8192*32<8192*8192*32-1", 1);
        gives("8192*8192*32>8192*8192*32-1", 0);
        gives("9998<9999", 1);
        gives("9999=9999", 1);
    }

    /** "& | ! give 1 or 0 (what is not 0 is true; both sides are worked out)". */
    private static void truths() {
        String[] values = {"0", "1", "2", "(0-1)", "8192*8192*32"};
        for (int i = 0; i < values.length; i++) {
            gives("!(" + values[i] + ")", i == 0 ? 1 : 0);
            for (int k = 0; k < values.length; k++) {
                gives(values[i] + "&" + values[k], i > 0 && k > 0 ? 1 : 0);
                gives(values[i] + "|" + values[k], i > 0 || k > 0 ? 1 : 0);
            }
        }
        gives("5", 5);
        gives("(5)", 5);
        gives("0&5/0", 0);
        gives("1|5/0", 1);
        gives("2&2&2", 1);
        gives("0|0|2", 1);
    }

    /** "THE TAPE (96 bytes at most ..": a text may use all of it. */
    private static void longestTexts() {
        gives("1" + "+1".repeat(45), 46);
        gives("1" + "*2".repeat(31) + " ".repeat(28), Integer.MIN_VALUE);
        gives("l" + "-1".repeat(45), -48);
        fault("fine 1" + "+1".repeat(44) + " +", 96);
        fault("fine 1" + "+1".repeat(44) + "+x", 95);
        fault("fine 1" + "+1".repeat(44) + "+)", 95);
        right("pace(" + "1+".repeat(44) + "11)");
        right("pay " + "1".repeat(4) + "|1".repeat(44));
    }

    /** "how many NUMBERS and NAMES it has": the KEY is none of them. */
    private static void counted() {
        String[] texts = {"fine 1", "fine l", "fine l+1", "fine !l", "fine (((1)))", "fine l*l-p/9999", "fine 1" + "+1".repeat(45)};
        int[] many = {1, 1, 2, 1, 1, 4, 46};
        TurtleBet b = new TurtleBet();
        for (int i = 0; i < texts.length; i++) {
            Due.text(b, texts[i]);
            Due.due("key of " + texts[i], b.textTold(i, 0), 2);
            Due.due("numbers and names of " + texts[i], b.textTold(i, 1), many[i]);
        }
        Due.text(b, "pay w");
        Due.text(b, "pace a");
        Due.due("key pay", b.textTold(7, 0), 1);
        Due.due("key pace", b.textTold(8, 0), 0);
    }

    /** A refused TEXT leaves nothing in the one that comes next: its KEY and its words are its own. */
    private static void countedBehindFaults() {
        String[] faults = {"fine l+1+", "pay w*s*", "pace p+a+c+", "fine (1", "pay"};
        String[] texts = {"pace p", "fine l", "pay w"};
        int[] keys = {0, 2, 1};
        for (String wrong : faults) {
            TurtleBet b = new TurtleBet();
            b.turtle(0, 13);
            b.wager(0, 0, 50);
            for (int i = 0; i < 3; i++) {
                Due.isTrue("a fault", Due.text(b, wrong) <= -100);
                Due.due("its number", Due.text(b, texts[i]), i);
                Due.due("its key", b.textTold(i, 0), keys[i]);
                Due.due("its words", b.textTold(i, 1), 1);
            }
            Due.due("step", b.step(0, 0), 13);
            Due.due("fine", b.fine(0), 0);
            Due.due("pays", b.pays(0, 0), 50);
        }
        for (String wrong : new String[] {"fine !1+", "fine 1+!1+", "fine 1+1+1+", "fine !!!!1<2<", "fine (2*3)/4 9"}) {
            for (String shorter : new String[] {"5", "(5)", "3+2", "2*3-1"}) {
                TurtleBet b = new TurtleBet();
                b.turtle(0, 0);
                Due.isTrue("a fault", Due.text(b, wrong) <= -100);
                Due.text(b, "fine " + shorter);
                Due.due("<" + shorter + "> behind <" + wrong + ">", b.fine(0), 5);
            }
        }
    }

    /** "of pace p PACE, a AGE, c COLD, x": each from its least to its greatest. */
    private static void namesAtTheirBounds() {
        String[] texts = {"pace p", "pace a/101", "pace a", "pace c", "pace x", "pace 99-c", "pace x*11"};
        int[] least = {0, 0, 0, 0, 0, 99, 0};
        int[] most = {20, 99, 99, 99, 9, 0, 99};
        for (int i = 0; i < texts.length; i++) {
            TurtleBet b = new TurtleBet();
            b.turtle(0, 0);
            b.rule(1, 0);
            Due.text(b, texts[i]);
            Due.due(texts[i] + ", all the least", b.step(0, 0), least[i]);
            b.set(0, 1, 20);
            b.set(0, 3, 9999);
            b.rule(1, 99);
            Due.due(texts[i] + ", all the greatest", b.step(0, 9), most[i]);
        }
    }
}
