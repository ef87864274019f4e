/** The sentences of the head 'Terms' that name a boundary, each at it and one beyond it. */
public final class EdgesOfTermsTest extends TestOfBlinds {
    /** The letters as the document tells them. */
    private static final String[] DOTS = {
        "25755", "65656", "34443", "65556", "74647", "74644", "34553", "55755",
        "72227", "11152", "55655", "44447", "57755", "65555", "25552", "65644"
    };
    private static final String[] WORDS = {"a", "ab", "abc", "abcd", "abcde", "abcdef"};

    public static void main(String[] args) {
        EdgesOfTermsTest test = new EdgesOfTermsTest();
        test.lastCall();
        test.setsOfWords();
        test.sixteenLetters();
        test.picturesOfLetters();
        test.widths();
        test.darkColumns();
        test.tenWords();
        test.numbersBehind();
        test.sameWords();
        test.sizes();
        test.atFirst();
        test.standing();
        test.darkElsewhere();
        test.onlyUnlikeDiscsFlip();
        test.wearAndSetting1();
        test.wearAboveSetting1();
        test.stuckDiscsStay();
        test.howFarApart();
        test.marginWithStuckDiscs();
        test.marginAlone();
        test.marginAndSetting0();
        test.marginsOfNoneAndLess();
        test.greatestMargin();
        test.readAs();
        test.readAsOfSeveral();
        test.settings();
        test.statesOfHistory();
        test.oldestStateIsDropped();
        test.changesToTheSame();
        test.constants();
        test.checks.end();
    }

    private void lastCall() {
        sentence("An object is used for at most 512 calls");
        FlippedBlinds x = new FlippedBlinds();
        due("call 1", x.word(letters("i")), 0);
        due("call 2", x.set(1, 99), 20);
        for (int call = 3; call < 511; call += 2) {
            x.show(0, 0);
            x.blank(0);
        }
        due("call 511", x.count(4), 254);
        due("call 512: nine discs were flipped until they were stuck", x.count(1), 9 * 99);
        x = new FlippedBlinds();
        for (int call = 1; call < 512; call++) {
            x.set(0, 1 + call % 9);
        }
        due("call 512 of changes", x.set(0, 5), 1 + 511 % 9);
    }

    private void setsOfWords() {
        sentence("Sets of words are told as bits: bit k is for the word k");
        FlippedBlinds x = withWords("h", "k", "l");
        due("only word 2 is unlike enough", x.blindOf(0, 7), 4);
        x = withWords("l", "h", "k");
        due("only word 0 is", x.blindOf(0, 7), 1);
        x = new FlippedBlinds();
        for (int word = 0; word < 9; word++) {
            x.word(letters("aaaaa") + word);
        }
        x.word(letters("p"));
        due("only word 9 can stand", x.blindOf(1, 7), 512);
        x = new FlippedBlinds();
        for (int word = 0; word < 10; word++) {
            due("not word " + word + " yet", x.blindOf(0, 7), (1 << word) - 1);
            x.word(new int[] {3, 4, 16, 2, 15, 14, 13, 11, 10, 9}[word]);
        }
        due("all ten", x.blindOf(0, 7), 1023);
    }

    private void sixteenLetters() {
        sentence("There are 16 letters, 1 to 16");
        for (int place = 0; place < 6; place++) {
            int others = letters("bbbbbb") & ~(31 << 5 * place);
            due("letter 0 at " + place, new FlippedBlinds().word(others), place == 5 ? 0 : INVALID);
            due("letter 1 at " + place, new FlippedBlinds().word(others | 1 << 5 * place), 0);
            due("letter 16 at " + place, new FlippedBlinds().word(others | 16 << 5 * place), 0);
            due("letter 17 at " + place, new FlippedBlinds().word(others | 17 << 5 * place), INVALID);
            due("letter 31 at " + place, new FlippedBlinds().word(others | 31 << 5 * place), INVALID);
        }
    }

    private void picturesOfLetters() {
        sentence("each 3 columns wide and 5 rows high. Their rows from above are told by five digits each");
        for (int letter = 1; letter <= 16; letter++) {
            FlippedBlinds x = new FlippedBlinds();
            x.word(letter);
            x.show(0, 1);
            for (int row = 0; row < ROWS; row++) {
                int digit = DOTS[letter - 1].charAt(row) - '0';
                String where = "letter " + letter + ", row " + row;
                due(where + ", left", x.disc(1, 0, row, 0), digit / 4);
                due(where + ", middle", x.disc(1, 1, row, 0), digit / 2 % 2);
                due(where + ", right", x.disc(1, 2, row, 0), digit % 2);
                due(where + ", behind it", x.disc(1, 3, row, 0), 0);
            }
        }
    }

    private void widths() {
        sentence("A word has 1 to 6 letters; it is 4 times its letters less 1 wide");
        for (int n = 1; n <= 6; n++) {
            FlippedBlinds x = withWords(WORDS[n - 1]);
            due("letters of " + WORDS[n - 1], x.wordOf(0, 1), n);
            due("width of " + WORDS[n - 1], x.wordOf(0, 2), 4 * n - 1);
        }
        due("no letters", new FlippedBlinds().word(0), INVALID);
        for (int more = 1; more < 4; more++) {
            due("seven letters", new FlippedBlinds().word(letters("aaaaaa") | more << 30), INVALID);
        }
    }

    private void darkColumns() {
        sentence("between two letters is a dark column");
        FlippedBlinds x = withWords("mmmmmm");
        due("the greatest word", x.show(0, 0), 0);
        for (int column = 0; column < 24; column++) {
            for (int row = 0; row < ROWS; row++) {
                // m is 57755: its outer columns are bright, its middle one is so in the rows 1 and 2.
                int place = column % 4;
                int bright = place == 3 || place == 1 && row != 1 && row != 2 ? 0 : 1;
                due("column " + column + ", row " + row, x.disc(0, column, row, 0), bright);
            }
        }
    }

    private void tenWords() {
        sentence("There are at most 10 words, numbered from 0 in the order in which they came");
        FlippedBlinds x = new FlippedBlinds();
        for (int word = 0; word < 10; word++) {
            due("word " + word, x.word(16 - word), word);
            due("words", x.count(0), word + 1);
        }
        due("word 10", x.word(letters("ab")), LIMIT);
        due("words", x.count(0), 10);
        for (int word = 0; word < 10; word++) {
            due("letters of word " + word, x.wordOf(word, 0), 16 - word);
        }
        due("one is taken away", x.unword(9), 9);
        due("word 9 again", x.word(letters("ab")), 9);
        due("word 10 again", x.word(letters("ba")), LIMIT);
    }

    private void numbersBehind() {
        sentence("if one is taken away, those behind it have numbers that are less by 1");
        for (int taken = 0; taken < 10; taken++) {
            FlippedBlinds x = new FlippedBlinds();
            for (int letter = 1; letter <= 10; letter++) {
                x.word(letter);
            }
            x.set(0, 1);
            x.show(9, 0);
            due("words without word " + taken, x.unword(taken), 9);
            for (int word = 0; word < 9; word++) {
                int letter = word < taken ? word + 1 : word + 2;
                due("word " + word + " without word " + taken, x.wordOf(word, 0), letter);
                due("dots of it", x.wordOf(word, 3), withLetter(letter).wordOf(0, 3));
            }
            due("no word 9", x.wordOf(9, 0), INVALID);
            due("how often word 8 was shown", x.wordOf(8, 4), taken == 9 ? 0 : 1);
            due("what is read", x.blindOf(0, 6) == 0 ? 1 : 0, taken == 9 ? 0 : 1);
        }
    }

    private static FlippedBlinds withLetter(int letter) {
        FlippedBlinds x = new FlippedBlinds();
        x.word(letter);
        return x;
    }

    private void sameWords() {
        sentence("No two words are the same");
        FlippedBlinds x = withWords("a", "aa", "aaa", "aaaaaa", "aaaaab", "baaaaa");
        due("six words with the same letters", x.count(0), 6);
        for (String word : new String[] {"a", "aa", "aaa", "aaaaaa", "aaaaab", "baaaaa"}) {
            due("the same: " + word, x.word(letters(word)), IMPOSSIBLE);
        }
        due("one is taken away", x.unword(0), 5);
        due("it comes again", x.word(letters("a")), 5);
        due("twice", x.word(letters("a")), IMPOSSIBLE);
        typeAll(x, "waa;");
        due("the same by a text", x.fault(2), IMPOSSIBLE);
    }

    private void sizes() {
        sentence("blind 0 has 24 columns, blind 1 has 16; both have 5 rows");
        FlippedBlinds x = new FlippedBlinds();
        for (int blind = 0; blind < 2; blind++) {
            int columns = COLUMNS[blind];
            due("columns", x.blindOf(blind, 8), columns);
            int stuck = 0;
            for (int column = -1; column <= columns; column++) {
                boolean there = column >= 0 && column < columns;
                due("column " + column, x.stick(blind, column, 0, 1), there ? ++stuck : INVALID);
            }
            for (int row = -1; row <= ROWS; row++) {
                boolean there = row >= 1 && row < ROWS;
                int due = there ? ++stuck : row == 0 ? stuck : INVALID;
                due("row " + row, x.stick(blind, columns - 1, row, 1), due);
            }
            due("bright discs", x.blindOf(blind, 0), columns + 4);
        }
    }

    private void atFirst() {
        sentence("a disc, bright or dark (all dark at first), free (at first) or stuck; its wear (0 at first)");
        for (int what = 0; what < 4; what++) {
            FlippedBlinds x = new FlippedBlinds();
            for (int blind = 0; blind < 2; blind++) {
                for (int column = 0; column < COLUMNS[blind]; column++) {
                    for (int row = 0; row < ROWS; row++) {
                        due("disc " + what + " at " + column + ", " + row, x.disc(blind, column, row, what), 0);
                    }
                }
            }
        }
    }

    private void standing() {
        sentence("A word can stand on a blind at a shift so that all of it is on the blind");
        for (int n = 1; n <= 6; n++) {
            FlippedBlinds x = withWords(WORDS[n - 1]);
            for (int blind = 0; blind < 2; blind++) {
                int last = COLUMNS[blind] - (4 * n - 1);
                String word = WORDS[n - 1] + " on " + blind;
                due(word + " at -1", x.margin(0, blind, -1), INVALID);
                due(word + " at 0", x.margin(0, blind, 0), last < 0 ? INVALID : 1099);
                due(word + " at the last shift", x.margin(0, blind, last), last < 0 ? INVALID : 1099);
                due(word + " behind it", x.margin(0, blind, last + 1), INVALID);
                due(word + " is shown", x.show(0, blind), last < 0 ? IMPOSSIBLE : 0);
                due(word + " is in the set", x.blindOf(blind, 7), last < 0 ? 0 : 1);
                due(word + " is read", x.blindOf(blind, 4), last < 0 ? NOTHING : 0);
            }
        }
    }

    private void darkElsewhere() {
        sentence("the picture is bright where its letters are, and dark elsewhere");
        for (int blind = 0; blind < 2; blind++) {
            int discs = COLUMNS[blind] * ROWS;
            FlippedBlinds x = withWords("p");
            stickAll(x, blind, 1);
            stickAll(x, blind, 2);
            due("all are bright", x.blindOf(blind, 0), discs);
            due("all are free", x.blindOf(blind, 1), 0);
            x.show(0, blind);
            due("only its dots are bright", x.blindOf(blind, 0), 8);
            due("all others were flipped", x.blindOf(blind, 3), discs - 8);
            due("none is unlike what is wanted", x.blindOf(blind, 2), 0);
            due("the last disc is dark", x.disc(blind, COLUMNS[blind] - 1, 4, 0), 0);
            due("its first dot was not flipped", x.disc(blind, 0, 0, 2), 0);
        }
    }

    private void onlyUnlikeDiscsFlip() {
        sentence("each free disc that is unlike it is flipped; its wear becomes 1 more");
        FlippedBlinds x = withWords("pppppp", "mmmmmm");
        x.show(0, 0);
        x.show(1, 0);
        int[] p = {6, 5, 6, 4, 4};
        int[] m = {5, 7, 7, 5, 5};
        int flips = 0;
        for (int column = 0; column < 24; column++) {
            for (int row = 0; row < ROWS; row++) {
                int left = 2 - column % 4;
                int ofP = left < 0 ? 0 : p[row] >> left & 1;
                int ofM = left < 0 ? 0 : m[row] >> left & 1;
                int wear = ofP + (ofP ^ ofM);
                flips += wear;
                due("wear at " + column + ", " + row, x.disc(0, column, row, 2), wear);
                due("wanted at " + column + ", " + row, x.disc(0, column, row, 3), ofM);
            }
        }
        due("flips", x.count(1), flips);
        due("the same picture flips none", x.show(1, 0), 0);
        due("flips", x.count(1), flips);
    }

    /** Shows the word 0 and lets the blind be blank in turn, so many pictures in all. */
    private static void alternate(FlippedBlinds x, int blind, int pictures) {
        for (int i = 1; i <= pictures; i++) {
            if (i % 2 == 1) {
                x.show(0, blind);
            } else {
                x.blank(blind);
            }
        }
    }

    private void wearAndSetting1() {
        sentence("if it is at least setting 1 then, the disc is stuck as it is then");
        for (int setting : new int[] {2, 3, 19, 20, 21, 98, 99}) {
            for (int blind = 0; blind < 2; blind++) {
                FlippedBlinds x = withWords("i");
                x.set(1, setting);
                alternate(x, blind, setting - 1);
                due("stuck with 1 less than " + setting, x.blindOf(blind, 1), 0);
                due("stuck by wear", x.count(2), 0);
                x = withWords("i");
                x.set(1, setting);
                alternate(x, blind, setting);
                due("stuck with " + setting, x.blindOf(blind, 1), 9);
                due("stuck by wear", x.count(2), 9);
                due("its wear", x.disc(blind, 0, 0, 2), setting);
                due("as it is then", x.disc(blind, 0, 0, 0), setting % 2);
                alternate(x, blind, 2);
                due("it stays", x.disc(blind, 0, 0, 0), setting % 2);
                due("its wear stays", x.disc(blind, 0, 0, 2), setting);
                due("flips", x.blindOf(blind, 3), 9 * setting);
            }
        }
        FlippedBlinds x = withWords("i");
        alternate(x, 0, 19);
        due("stuck by 19 flips with the first setting", x.count(2), 0);
        x.blank(0);
        due("stuck by 20", x.count(2), 9);
    }

    private void wearAboveSetting1() {
        sentence("if it is at least setting 1 then: also if it is more");
        FlippedBlinds x = withWords("i");
        alternate(x, 0, 5);
        x.set(1, 2);
        due("a lower setting sticks none", x.blindOf(0, 1), 0);
        due("before a disc is flipped", x.show(0, 0), 0);
        due("none is stuck yet", x.blindOf(0, 1), 0);
        due("blank", x.blank(0), 0);
        due("all are stuck with 6", x.blindOf(0, 1), 9);
        due("its wear", x.disc(0, 1, 2, 2), 6);
        due("a higher setting frees none", x.set(1, 99), 2);
        due("all are stuck still", x.blindOf(0, 1), 9);
        due("one that is freed", x.stick(0, 1, 2, 2), 8);
        due("show", x.show(0, 0), 0);
        due("is flipped", x.disc(0, 1, 2, 2), 7);
        due("and not stuck, with 7 of 99", x.disc(0, 1, 2, 1), 0);
    }

    private void stuckDiscsStay() {
        sentence("Stuck discs stay as they are. What is seen is all discs as they are");
        FlippedBlinds x = withWords("i");
        x.stick(0, 0, 0, 0);
        x.stick(0, 1, 0, 1);
        x.stick(0, 0, 1, 1);
        x.stick(0, 2, 1, 0);
        due("show", x.show(0, 0), 0);
        due("stuck dark where bright is wanted", x.disc(0, 0, 0, 0), 0);
        due("stuck bright where bright is wanted", x.disc(0, 1, 0, 0), 1);
        due("stuck bright where dark is wanted", x.disc(0, 0, 1, 0), 1);
        due("stuck dark where dark is wanted", x.disc(0, 2, 1, 0), 0);
        for (int column = 0; column < 3; column++) {
            due("wear of stuck discs", x.disc(0, column, column == 1 ? 0 : 1, 2), 0);
        }
        due("two are unlike", x.blindOf(0, 2), 2);
        due("flips", x.blindOf(0, 3), 7);
        due("bright", x.blindOf(0, 0), 9);
        due("as far from what is seen", x.blindOf(0, 6), 2);
        due("blank", x.blank(0), 2);
    }

    private void howFarApart() {
        sentence("How far two pictures are apart is how many dots are unlike");
        // h is 55755: the middle dot of k, 55655, is dark at the right of row 2.
        FlippedBlinds x = withWords("h", "k");
        due("one dot", x.closest(0, 2), 1);
        due("the margin", x.margin(0, 0, 0), 1001);
        x = withWords("aaaaaa", "aaaaah");
        due("three dots of the last letter", x.closest(0, 2), 3);
        x = withWords("aaaaaa", "haaaaa");
        due("three dots of the first letter", x.closest(0, 2), 3);
        x = withWords("aaaaaa", "aaahaa");
        due("three dots at the middle", x.margin(1, 0, 1), 1003);
    }

    private void marginWithStuckDiscs() {
        sentence("as seen with the stuck discs of now (and free discs as wanted, without wear)");
        FlippedBlinds x = withWords("h", "k");
        due("one dot tells h from k", x.margin(0, 0, 5), 1001);
        x.stick(0, 7, 2, 0);
        due("that is stuck as in k", x.margin(0, 0, 5), 999);
        due("k is 1 from h", x.margin(1, 0, 5), 1001);
        x.stick(0, 7, 2, 1);
        due("that is stuck as in h", x.margin(0, 0, 5), 1001);
        due("k is seen as h", x.margin(1, 0, 5), 999);
        x.stick(0, 7, 2, 2);
        due("a free bright disc is as wanted", x.margin(1, 0, 5), 1001);
        x = withWords("h", "k");
        x.set(0, 1);
        x.set(1, 2);
        x.show(0, 0);
        // The next flip of each disc sticks it; the margin is without that.
        due("discs that would be stuck", x.margin(1, 0, 0), 1001);
        due("and after they are", x.show(1, 0), 0);
        due("h has its dot no more", x.margin(0, 0, 0), 999);
        due("a stuck disc far off is unlike both", x.stick(0, 20, 0, 1), 2);
        due("so the margin stays", x.margin(1, 0, 0), 1001);
    }

    private void marginAlone() {
        sentence("without other words that can stand on the blind it is 99, whatever is stuck");
        FlippedBlinds x = withWords("i");
        stickAll(x, 1, 0);
        due("all are stuck dark", x.margin(0, 1, 13), 1099);
        due("shown all the same", x.show(0, 1), 0);
        due("unlike what is wanted", x.blindOf(1, 2), 9);
        stickAll(x, 1, 1);
        due("all are stuck bright", x.margin(0, 1, 0), 1099);
        x.word(letters("iiiii"));
        due("the other word cannot stand there", x.margin(0, 1, 0), 1099);
        x.set(0, 9);
        due("the margin is at least 9", x.would(0, 1, 1), 99);
        due("words to be shown", x.blindOf(1, 7), 1);
        x.word(letters("iiii"));
        due("another word can stand there", x.margin(0, 1, 0) < 1099 ? 1 : 0, 1);
        due("that is seen as all bright, too: 80 - 36 less 80 - 9", x.margin(0, 1, 0), 1000 + 44 - 71);
        due("the other way", x.margin(2, 1, 1), 1000 + 71 - 44);
    }

    private void marginAndSetting0() {
        sentence("A word can be shown at a shift if its margin there is at least setting 0");
        // h and k are 1 apart, b and d 2, a and h 3; words of six letters are near at the same shift only.
        String[][] pairs = {
            {"haaaaa", "kaaaaa"}, {"baaaaa", "daaaaa"}, {"aaaaaa", "haaaaa"},
            {"ahaaaa", "hkaaaa"}, {"abaaaa", "hdaaaa"}, {"aaaaaa", "hhaaaa"},
            {"aahaaa", "hhkaaa"}, {"aabaaa", "hhdaaa"}, {"aaaaaa", "hhhaaa"}
        };
        for (int margin = 1; margin <= 9; margin++) {
            String[] pair = pairs[margin - 1];
            FlippedBlinds x = withWords(pair);
            due("the margin of " + pair[0], x.margin(0, 0, 1), 1000 + margin);
            x.set(0, margin);
            due("it can be shown with that", x.blindOf(0, 7), 3);
            due("it would be", x.would(0, 0, 1), margin);
            due("it is", x.show(0, 0), 0);
            if (margin < 9) {
                x.set(0, margin + 1);
                due("it cannot with 1 more", x.blindOf(0, 7), 0);
                due("it would not be", x.would(0, 0, 1), IMPOSSIBLE);
                due("it is not", x.show(0, 0), IMPOSSIBLE);
            }
        }
    }

    private void marginsOfNoneAndLess() {
        sentence("its margin there is at least setting 0, which is 1 at least: not with 0 or less");
        // b, 65656, lacks two dots where row 2 is dark, and so does d, 65556.
        FlippedBlinds x = withWords("b", "d");
        x.set(0, 1);
        stickRow(x, 1, 0, 16, 2, 0);
        due("a margin of 0", x.margin(0, 1, 7), 1000);
        due("is too small", x.show(0, 1), IMPOSSIBLE);
        // h lacks three dots there, and k two.
        x = withWords("h", "k");
        x.set(0, 1);
        stickRow(x, 1, 0, 16, 2, 0);
        due("a margin below 0", x.margin(0, 1, 13), 999);
        due("is too small", x.show(0, 1), IMPOSSIBLE);
        due("the other one is 1", x.margin(1, 1, 13), 1001);
        due("words to be shown", x.blindOf(1, 7), 2);
    }

    private void greatestMargin() {
        sentence("It is shown at the shift with the greatest margin, of several the lowest shift");
        for (int blind = 0; blind < 2; blind++) {
            int last = COLUMNS[blind] - 3;
            // The dot that tells h from k is the right one of row 2: it is dark up to a shift.
            for (int shift : new int[] {0, 1, 2, last - 1, last}) {
                FlippedBlinds x = withWords("h", "k");
                x.set(0, 1);
                stickRow(x, blind, 2, shift + 2, 2, 0);
                due("the shift on " + blind, x.would(0, blind, 0), shift);
                due("its margin", x.would(0, blind, 1), 1);
                due("shown there", x.show(0, blind), shift);
                due("bright there", x.disc(blind, shift, 0, 0), 1);
                due("the other one is at 0", x.show(1, blind), 0);
            }
        }
        // A greater margin behind a lower one that would do: at 0 one of two dots is stuck.
        FlippedBlinds x = withWords("a", "h");
        x.set(0, 1);
        x.stick(0, 1, 0, 0);
        due("1 at the shift 0", x.margin(0, 0, 0), 1001);
        due("3 at the shift 1", x.margin(0, 0, 1), 1003);
        due("3 at the shift 2", x.margin(0, 0, 2), 1003);
        due("shown at 1", x.show(0, 0), 1);
    }

    private void readAs() {
        sentence("read as: the word and shift whose picture is the least far from it, of all words that can stand");
        for (int blind = 0; blind < 2; blind++) {
            for (int shift : new int[] {0, 1, COLUMNS[blind] - 4, COLUMNS[blind] - 3}) {
                FlippedBlinds x = withWords("iiiii", "h", "k");
                x.unword(0);
                x.set(0, 1);
                stickRow(x, blind, 2, shift + 2, 2, 0);
                x.show(0, blind);
                due("the word", x.blindOf(blind, 4), 0);
                due("its shift", x.blindOf(blind, 5), shift);
                // The dark discs are stuck at the left and the middle dot of row 2, too.
                due("how far", x.blindOf(blind, 6), Math.min(shift, 2));
            }
        }
        FlippedBlinds x = withWords("iiiii", "mmmmm", "p");
        due("too wide ones are not read", x.blindOf(1, 4), 2);
        due("not far", x.blindOf(1, 6), 8);
        due("on the other blind it is that one, too", x.blindOf(0, 4), 2);
        x.unword(2);
        due("none can stand", x.blindOf(1, 4), NOTHING);
        due("there it is one of five letters", x.blindOf(0, 4), 0);
    }

    private void readAsOfSeveral() {
        sentence("of several the lowest word, of one word the lowest shift");
        // a is 25755, b is 65656, ten dots each. Of these two bright discs only b at 0 has the first one,
        // and only a at 21 has the second one, so both are 10 from what is seen, and all others 12.
        FlippedBlinds x = withWords("a", "b");
        due("dark: the lowest word", x.blindOf(0, 4), 0);
        due("at the lowest shift", x.blindOf(0, 5), 0);
        x.stick(0, 0, 0, 1);
        due("b is the nearest", x.blindOf(0, 4), 1);
        x.stick(0, 23, 2, 1);
        due("the lowest word", x.blindOf(0, 4), 0);
        due("though its shift is greater", x.blindOf(0, 5), 21);
        due("how far", x.blindOf(0, 6), 10);
        x = withWords("b", "a");
        x.stick(0, 0, 0, 1);
        x.stick(0, 23, 2, 1);
        due("the lowest word", x.blindOf(0, 4), 0);
        due("its shift", x.blindOf(0, 5), 0);
        // e, 74647, has a bright left column: these are bright where it stands at 3, 9 or 20.
        x = withWords("e");
        for (int column : new int[] {20, 3, 9}) {
            x.stick(0, column, 3, 1);
        }
        due("the lowest of three shifts", x.blindOf(0, 5), 3);
        due("how far", x.blindOf(0, 6), 11);
    }

    private void settings() {
        sentence("The settings are (in parentheses: range; first value): 0 (1 to 9; 2), 1 (2 to 99; 20)");
        FlippedBlinds x = new FlippedBlinds();
        due("setting 0 at first", x.count(20), 2);
        due("setting 1 at first", x.count(21), 20);
        int[][] ranges = {{1, 9, 2}, {2, 99, 20}};
        for (int what = 0; what < 2; what++) {
            int was = ranges[what][2];
            for (int value = ranges[what][0] - 1; value <= ranges[what][1] + 1; value++) {
                boolean in = value >= ranges[what][0] && value <= ranges[what][1];
                due("set(" + what + ", " + value + ")", x.set(what, value), in ? was : INVALID);
                was = in ? value : was;
                due("setting " + what, x.count(20 + what), was);
            }
        }
        due("setting 0 stays", x.count(20), 9);
    }

    /** Eight changes, one by each call that can be one, and in front of them what they need. */
    private static int change(FlippedBlinds x, int which) {
        switch (which) {
            case 0: return x.word(letters("p"));
            case 1: return x.show(0, 0);
            case 2: return x.blank(0);
            case 3: return x.stick(0, 5, 0, 1);
            case 4: return x.repair(0, 5);
            case 5: return x.set(0, 2);
            case 6: return x.play();
            default: return x.unword(0);
        }
    }

    private void statesOfHistory() {
        sentence("A history of at most 4 states is kept: each change records everything before it but the text");
        for (int which = 0; which < 8; which++) {
            FlippedBlinds x = new FlippedBlinds();
            x.word(letters("i"));
            due("one state", x.count(5), 1);
            for (int i = 2; i <= 6; i++) {
                x.set(1, 50 + i);
                due("states with " + i + " changes", x.count(5), Math.min(i, 4));
            }
            x.undo();
            due("three are left", x.count(5), 3);
            due("change " + which, change(x, which) >= 0 ? 1 : 0, 1);
            due("is one more", x.count(5), 4);
            x.undo();
            due("undone", x.count(5), 3);
            due("change " + which + " again", change(x, which) >= 0 ? 1 : 0, 1);
            due("and once more", x.set(1, 90), 55);
            due("there are not five", x.count(5), 4);
            due("the one before it is the latest", x.undo(), 3);
            due("setting 1", x.count(21), 55);
        }
    }

    private void oldestStateIsDropped() {
        sentence("and if there are 5 states then, the oldest one is dropped");
        for (int changes = 1; changes <= 9; changes++) {
            FlippedBlinds x = new FlippedBlinds();
            for (int i = 1; i <= changes; i++) {
                x.set(1, 30 + i);
            }
            int kept = Math.min(4, changes);
            due("states of " + changes + " changes", x.count(5), kept);
            for (int left = kept - 1; left >= 0; left--) {
                due("states left", x.undo(), left);
                int before = changes - kept + left;
                due("setting 1 then", x.count(21), before == 0 ? 20 : 30 + before);
            }
            due("no more", x.undo(), IMPOSSIBLE);
            due("setting 1 stays", x.count(21), changes <= 4 ? 20 : 30 + changes - 4);
        }
    }

    private void changesToTheSame() {
        sentence("The changes are the calls that return no error: also if all is as before");
        FlippedBlinds x = new FlippedBlinds();
        due("set to what it is", x.set(0, 2), 2);
        due("states", x.count(5), 1);
        due("blank a blank one", x.blank(1), 0);
        due("states", x.count(5), 2);
        due("free a free disc", x.stick(0, 23, 4, 2), 0);
        due("states", x.count(5), 3);
        due("play nothing", x.play(), 0);
        due("states", x.count(5), 4);
        due("undo play", x.undo(), 3);
        due("undo stick", x.undo(), 2);
        due("undo blank", x.undo(), 1);
        due("undo set", x.undo(), 0);
        x.word(letters("i"));
        x.show(0, 0);
        due("show what is shown", x.show(0, 0), 0);
        due("states", x.count(5), 3);
        due("undo show", x.undo(), 2);
        due("shown once", x.count(4), 1);
        due("repair what is whole", x.repair(0, 23), 0);
        due("states", x.count(5), 3);
    }

    private void constants() {
        sentence("The constants");
        due("INVALID_ARGUMENT", FlippedBlinds.INVALID_ARGUMENT, -1000001);
        due("NOT_POSSIBLE", FlippedBlinds.NOT_POSSIBLE, -1000002);
        due("LIMIT_REACHED", FlippedBlinds.LIMIT_REACHED, -1000003);
        due("NOT_FOUND", FlippedBlinds.NOT_FOUND, -1000004);
    }
}
