/** The sentences of the promises 18 to 21 and of 'Texts' that name a boundary, each at it and one beyond it. */
public final class EdgesOfTextsTest extends TestOfBlinds {
    private static final String TWENTY = "b0;b1;b0;b1;b0;b1;b0;b1;b0;b1;b0;b1;b0;b1;b0;b1;b0;b1;b0;b1;";

    public static void main(String[] args) {
        EdgesOfTextsTest test = new EdgesOfTextsTest();
        test.characters();
        test.sixtyCharacters();
        test.emptied();
        test.noFault();
        test.letters();
        test.numbersOfDigits();
        test.shapes();
        test.otherSigns();
        test.endsTooEarly();
        test.notPossibleOrders();
        test.aheadOfThemDone();
        test.positions();
        test.firstFault();
        test.noOrders();
        test.mostOrders();
        test.faultyTextIsNotPlayed();
        test.oneChange();
        test.textStays();
        test.ordersAreCalls();
        test.checks.end();
    }

    private void characters() {
        sentence("Promise 18: 32 to 126");
        FlippedBlinds x = new FlippedBlinds();
        int length = 0;
        for (int character = -1; character <= 300; character++) {
            boolean in = character >= 32 && character <= 126;
            if (length == 60) {
                due("a full text is emptied", x.clearText(), 60);
                length = 0;
            }
            length += in ? 1 : 0;
            due("type(" + character + ")", x.type(character), in ? length : INVALID);
        }
        due("length", x.count(6), length);
        due("no change", x.count(5), 0);
    }

    private void sixtyCharacters() {
        sentence("Promise 18: LIMIT_REACHED if it has 60 characters");
        FlippedBlinds x = new FlippedBlinds();
        for (int length = 1; length <= 60; length++) {
            due("Returns the length of the text", x.type(TWENTY.charAt(length - 1)), length);
        }
        due("a sixty-first one", x.type('b'), LIMIT);
        due("and one more", x.type(126), LIMIT);
        due("a wrong one", x.type(127), INVALID);
        due("the text is as it was", x.play(), 20);
        due("its length", x.clearText(), 60);
        due("then there is room", x.type('b'), 1);
    }

    private void emptied() {
        sentence("Promise 19: Empties the text. Returns the length it had");
        FlippedBlinds x = new FlippedBlinds();
        due("it had none", x.clearText(), 0);
        x.type('b');
        due("it had one", x.clearText(), 1);
        due("and has none", x.clearText(), 0);
        due("its length", x.count(6), 0);
        due("it has no fault", x.fault(0), NOTHING);
        typeAll(x, TWENTY);
        due("it had all", x.clearText(), 60);
        due("and has no orders", x.play(), 0);
        typeAll(x, "b");
        due("nothing of the old one is behind the new one", x.fault(2), 1);
        due("emptying is no change", x.count(5), 1);
    }

    private void noFault() {
        sentence("Promise 20: NOT_FOUND if the text has no fault (also if it is empty)");
        dueOrders("", 0);
        dueOrders("b0;", 1);
        dueOrders("wabcdef;s1,0;s01,00;k0,23,4,2;k01,15,04,01;r0,23;r1,15;b1;", 8);
        dueOrders(TWENTY, 20);
        FlippedBlinds x = withText("b0;");
        due("fault(3)", x.fault(3), INVALID);
        due("fault(-1)", x.fault(-1), INVALID);
    }

    private void letters() {
        sentence("Texts: \"w\" and 1 to 6 letters from a (1) to p (16)");
        dueFault("w;", 0, 1, 1);
        dueOrders("wp;", 1);
        dueOrders("waa;", 1);
        dueOrders("waaaaaa;", 1);
        dueFault("waaaaaaa;", 0, 1, 7);
        dueFault("wpppppppp;", 0, 1, 7);
        dueFault("w`;", 0, 1, 1);
        dueFault("wq;", 0, 1, 1);
        dueFault("wA;", 0, 1, 1);
        dueFault("wP;", 0, 1, 1);
        dueFault("wapq;", 0, 1, 3);
        dueFault("wap`;", 0, 1, 3);
        dueFault("wa1;", 0, 1, 2);
        FlippedBlinds x = new FlippedBlinds();
        typeAll(x, "wapbcde;wa;wp;");
        due("three words come", x.play(), 3);
        due("six letters", x.wordOf(0, 0), letters("apbcde"));
        due("a is 1", x.wordOf(1, 0), 1);
        due("p is 16", x.wordOf(2, 0), 16);
    }

    private void numbersOfDigits() {
        sentence("Texts: numbers of 1 or 2 digits, 0 ahead allowed");
        String[] right = {
            "b0;", "b00;", "b1;", "b01;", "s0,0;", "s00,01;", "r0,9;", "r0,09;", "r0,10;", "k00,00,00,00;"
        };
        for (String text : right) {
            dueOrders(text, 1);
        }
        String[] wrong = {
            "b;", "b000;", "b001;", "s,0;", "s000,0;", "s0,;", "s0,000;", "r,0;", "r000,0;", "r0,;", "r0,000;",
            "k,0,0,0;", "k000,0,0,0;", "k0,,0,0;", "k0,000,0,0;", "k0,0,,0;", "k0,0,000,0;", "k0,0,0,;", "k0,0,0,000;"
        };
        int[] breaks = {1, 3, 3, 1, 3, 3, 5, 1, 3, 3, 5, 1, 3, 3, 5, 5, 7, 7, 9};
        for (int i = 0; i < wrong.length; i++) {
            dueFault(wrong[i], 0, 1, breaks[i]);
        }
        sentence("Texts: the greatest numbers of 2 digits are of the form");
        String[] greatest = {
            "b99;", "s99,0;", "s0,99;", "k99,0,0,0;", "k0,99,0,0;", "k0,0,99,0;", "k0,0,0,99;", "r99,0;", "r0,99;"
        };
        for (String text : greatest) {
            dueFault(text, 0, 2, INVALID);
        }
    }

    private void shapes() {
        sentence("Texts: orders, each followed by \";\", their numbers with \",\" between them");
        String[] wrong = {
            "b0", "b0b1;", "b0,0;", "b0,;", "s0;", "s0,0,0;", "s0,0,;", "s0;0;",
            "k0;", "k0,0;", "k0,0,0;", "k0,0,0,0,0;", "r0;", "r0,0,0;", "wa", "wa,b;",
            ";", "b0;;", ";b0;", "b 0;", "b0 ;", " b0;", "b0; b1;", "b0;\"b1\";"
        };
        int[][] due = {
            {0, 2}, {0, 2}, {0, 2}, {0, 2}, {0, 2}, {0, 4}, {0, 4}, {0, 2},
            {0, 2}, {0, 4}, {0, 6}, {0, 8}, {0, 2}, {0, 4}, {0, 2}, {0, 2},
            {0, 0}, {3, 0}, {0, 0}, {0, 1}, {0, 2}, {0, 0}, {3, 0}, {3, 0}
        };
        for (int i = 0; i < wrong.length; i++) {
            dueFault(wrong[i], due[i][0], 1, due[i][1]);
        }
    }

    private void otherSigns() {
        sentence("Texts: an order begins with w, s, b, k or r, and with no other sign");
        for (int sign = 32; sign <= 126; sign++) {
            String text = (char) sign + "0,0,0,0;";
            int breaks = "swbkr".indexOf(sign) < 0 ? 0 : sign == 'w' ? 1 : sign == 'b' ? 2 : 4;
            if (sign == 'k') {
                dueOrders(text, 1);
            } else {
                dueFault(text, 0, 1, breaks);
            }
        }
        sentence("Texts: a number is of digits, and of no other signs");
        for (int sign = 32; sign <= 126; sign++) {
            boolean digit = sign >= '0' && sign <= '9';
            if (!digit) {
                dueFault("r" + (char) sign + ",0;", 0, 1, 1);
                dueFault("r0," + (char) sign + ";", 0, 1, 3);
                if (sign != ';') {
                    dueFault("r0,1" + (char) sign + ";", 0, 1, 4);
                }
            }
        }
    }

    private void endsTooEarly() {
        sentence("Texts: of one that the text ends too early it is its length");
        String[] orders = {"wabcdef;", "s00,00;", "b00;", "k00,00,00,00;", "r00,00;"};
        for (String order : orders) {
            for (int length = 1; length < order.length(); length++) {
                dueFault(order.substring(0, length), 0, 1, length);
                dueFault("b1;r0,0;" + order.substring(0, length), 8, 1, length);
            }
        }
        dueFault(TWENTY.substring(0, 59), 57, 1, 2);
        dueFault(TWENTY.substring(0, 57) + "wpp", 57, 1, 3);
        dueFault(TWENTY.substring(0, 57) + "r1,", 57, 1, 3);
        dueFault(TWENTY.substring(0, 57) + "b11", 57, 1, 3);
    }

    private void notPossibleOrders() {
        sentence("Texts: with the reason 2 the error code that the call returns for it");
        dueFault("wa;", 0, 2, IMPOSSIBLE);
        dueOrders("wb;wc;wd;we;wf;wg;wh;wi;wj;", 9);
        dueFault("wb;wc;wd;we;wf;wg;wh;wi;wj;wk;", 27, 2, LIMIT);
        dueFault("wb;wc;wd;we;wf;wg;wh;wi;wj;wa;", 27, 2, IMPOSSIBLE);
        dueFault("s1,0;", 0, 2, INVALID);
        dueFault("s0,2;", 0, 2, INVALID);
        dueFault("waaaaa;s1,1;", 7, 2, IMPOSSIBLE);
        dueFault("waaaaa;s1,2;", 7, 2, INVALID);
        dueOrders("wh;s0,0;", 2);
        dueFault("wh;wk;s1,0;", 6, 2, IMPOSSIBLE);
        dueFault("b2;", 0, 2, INVALID);
        dueFault("k2,0,0,0;", 0, 2, INVALID);
        dueOrders("k0,23,4,2;k1,15,4,2;", 2);
        dueFault("k0,24,0,0;", 0, 2, INVALID);
        dueFault("k1,16,0,0;", 0, 2, INVALID);
        dueFault("k0,0,5,0;", 0, 2, INVALID);
        dueFault("k0,0,0,3;", 0, 2, INVALID);
        dueOrders("r0,23;r1,15;", 2);
        dueFault("r0,24;", 0, 2, INVALID);
        dueFault("r1,16;", 0, 2, INVALID);
        dueFault("r2,0;", 0, 2, INVALID);
    }

    private void aheadOfThemDone() {
        sentence("Texts: when those ahead of it are done");
        dueOrders("wb;s1,0;", 2);
        dueFault("s1,0;wb;", 0, 2, INVALID);
        // What is stuck by an order ahead: without its dots h is no more than k.
        FlippedBlinds x = withWords("haaa", "kaaa");
        x.set(0, 1);
        typeAll(x, "s0,1;k1,2,2,0;k1,3,2,0;s0,1;");
        due("position", x.fault(0), 23);
        due("cause", x.fault(2), IMPOSSIBLE);
        typeAll(x, "s0,1;k1,2,2,0;k1,3,2,0;r1,2;s0,1;");
        due("repaired ahead of it", x.fault(0), NOTHING);
        // What is stuck by the wear of the orders ahead: the dot of h is flipped by each s.
        x = withWords("haaa", "kaaa");
        x.set(0, 1);
        x.set(1, 2);
        x.stick(1, 3, 2, 0);
        typeAll(x, "s0,1;s1,1;s0,1;");
        due("at the shift 0 h is worn out by three orders", x.fault(0), 10);
        due("asked again", x.fault(2), IMPOSSIBLE);
        due("asking wears nothing", x.count(1), 0);
    }

    private void positions() {
        sentence("Texts: the position, from 0, of the first character of the first order that is not possible");
        for (int orders = 0; orders < 20; orders++) {
            String ahead = TWENTY.substring(0, 3 * orders);
            dueFault(ahead + "b2;", 3 * orders, 2, INVALID);
            dueFault(ahead + "b0x", 3 * orders, 1, 2);
            dueFault(ahead + ";", 3 * orders, 1, 0);
            if (orders < 19) {
                dueFault(ahead + "b2;b2;", 3 * orders, 2, INVALID);
            }
        }
    }

    private void firstFault() {
        sentence("Texts: its reason is 1 if it is not of this form, its \";\" included, and otherwise 2");
        dueFault("b2;x", 0, 2, INVALID);
        dueFault("b2", 0, 1, 2);
        dueFault("x;b2;", 0, 1, 0);
        dueFault("b0;x;b2;", 3, 1, 0);
        dueFault("b0;b2;x;", 3, 2, INVALID);
        dueFault("wa", 0, 1, 2);
        dueFault("wa;x", 0, 2, IMPOSSIBLE);
        dueFault("s9,9", 0, 1, 4);
    }

    private void noOrders() {
        sentence("Promise 21: They are one change, also if there are none");
        FlippedBlinds x = new FlippedBlinds();
        for (int states = 1; states <= 6; states++) {
            due("play", x.play(), 0);
            due("states", x.count(5), Math.min(states, 4));
        }
        due("undo", x.undo(), 3);
        due("words", x.count(0), 0);
    }

    private void mostOrders() {
        sentence("Promise 21: Returns how many there are in it");
        for (int orders = 0; orders <= 20; orders++) {
            dueOrders(TWENTY.substring(0, 3 * orders), orders);
        }
        dueOrders("k00,00,00,00;k01,15,04,02;k00,23,04,01;k01,00,00,00;r01,15;", 5);
    }

    private void faultyTextIsNotPlayed() {
        sentence("Promise 21: NOT_POSSIBLE if it has a fault");
        FlippedBlinds x = withWords("i");
        x.set(1, 2);
        String[] faults = {"x", "s0,0", "b2;", "wi;"};
        for (String fault : faults) {
            typeAll(x, "wb;s0,0;b0;k0,0,0,1;r0,1;" + fault);
            due("play with '" + fault + "'", x.play(), IMPOSSIBLE);
            due("no word has come", x.count(0), 1);
            due("none was shown", x.count(4), 0);
            due("nothing was flipped", x.count(1), 0);
            due("nothing is stuck", x.count(2) + x.blindOf(0, 1), 0);
            due("nothing was repaired", x.count(3), 0);
            due("no state is recorded", x.count(5), 2);
            due("the text stays", x.count(6), 25 + fault.length());
        }
    }

    private void oneChange() {
        sentence("Promise 21: Does all orders of the text. They are one change");
        FlippedBlinds x = withWords("i");
        typeAll(x, "wb;s0,0;s1,1;k0,23,4,1;r0,1;b1;");
        due("play", x.play(), 6);
        due("one state more", x.count(5), 2);
        due("a word has come", x.count(0), 2);
        due("two were shown", x.count(4), 2);
        due("flips", x.count(1), 9 + 10 + 10);
        due("repaired", x.count(3), 1);
        due("stuck", x.blindOf(0, 1), 1);
        due("undo all", x.undo(), 1);
        due("words", x.count(0), 1);
        due("shown", x.count(4), 0);
        due("flips", x.count(1), 0);
        due("repaired", x.count(3), 0);
        due("stuck", x.blindOf(0, 1), 0);
        due("bright", x.blindOf(0, 0), 0);
        due("wear", x.disc(0, 0, 0, 2), 0);
        due("play again", x.play(), 6);
        due("flips", x.count(1), 29);
    }

    private void textStays() {
        sentence("Promise 21: Does all orders of the text, which stays");
        FlippedBlinds x = withWords("i");
        typeAll(x, "s0,0;b0;");
        for (int times = 1; times <= 5; times++) {
            due("play", x.play(), 2);
            due("length", x.count(6), 8);
            due("shown", x.count(4), times);
            due("flips", x.count(1), 18 * times);
        }
        typeAll(x, "wc;");
        due("play", x.play(), 1);
        due("its order is not possible twice", x.play(), IMPOSSIBLE);
        due("fault", x.fault(2), IMPOSSIBLE);
        x.clearText();
        due("emptied", x.play(), 0);
    }

    /** What an object tells of its discs and words, as one number a line of questions. */
    private static int[] told(FlippedBlinds x) {
        int[] sums = new int[13];
        for (int what = 0; what < 4; what++) {
            for (int column = 0; column < 16; column++) {
                int row = column % 5;
                sums[what] = sums[what] * 31 + x.disc(0, column, row, what) * 7 + x.disc(1, column, row, what);
            }
        }
        for (int what = 0; what <= 4; what++) {
            sums[4 + what] = x.count(what);
        }
        for (int blind = 0; blind < 2; blind++) {
            sums[9 + blind] = x.blindOf(blind, 4) * 100 + x.blindOf(blind, 5);
            sums[11 + blind] = x.blindOf(blind, 6) * 200 + x.blindOf(blind, 1);
        }
        return sums;
    }

    private void ordersAreCalls() {
        sentence("Texts: a word comes; it is shown; it is blank; as by the call stick; repaired");
        FlippedBlinds byText = new FlippedBlinds();
        FlippedBlinds byCalls = new FlippedBlinds();
        byText.set(1, 2);
        byCalls.set(1, 2);
        typeAll(byText, "wgp;wag;s01,0;s0,1;b01;s1,01;k1,04,3,1;k0,11,01,0;r00,2;b0;");
        due("play", byText.play(), 10);
        byCalls.word(letters("gp"));
        byCalls.word(letters("ag"));
        byCalls.show(1, 0);
        byCalls.show(0, 1);
        byCalls.blank(1);
        byCalls.show(1, 1);
        byCalls.stick(1, 4, 3, 1);
        byCalls.stick(0, 11, 1, 0);
        byCalls.repair(0, 2);
        byCalls.blank(0);
        int[] text = told(byText);
        int[] calls = told(byCalls);
        for (int i = 0; i < text.length; i++) {
            due("question " + i, text[i], calls[i]);
        }
        // The states before and after, for blank and the states of stick alone.
        FlippedBlinds x = withWords("i");
        x.show(0, 0);
        typeAll(x, "k0,0,0,0;k0,1,1,2;k0,2,4,1;");
        due("play", x.play(), 3);
        due("stuck dark", x.disc(0, 0, 0, 0) * 2 + x.disc(0, 0, 0, 1), 1);
        due("free, as it is", x.disc(0, 1, 1, 0) * 2 + x.disc(0, 1, 1, 1), 2);
        due("stuck bright", x.disc(0, 2, 4, 0) * 2 + x.disc(0, 2, 4, 1), 3);
    }
}
