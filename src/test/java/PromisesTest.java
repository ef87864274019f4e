/** The promises of the document, one method each, with answers that were worked out by hand. */
public final class PromisesTest extends TestOfBlinds {
    private static final int[] FAR_ARGUMENTS = {Integer.MIN_VALUE, -1000, -1, 1000, Integer.MAX_VALUE};

    public static void main(String[] args) {
        PromisesTest test = new PromisesTest();
        test.newObject();
        test.word();
        test.unword();
        test.show();
        test.wearByShowing();
        test.blank();
        test.stick();
        test.repair();
        test.set();
        test.disc();
        test.blindOf();
        test.wordOf();
        test.margin();
        test.would();
        test.closest();
        test.bestRepair();
        test.count();
        test.undo();
        test.undoOfAll();
        test.type();
        test.clearText();
        test.fault();
        test.faultForms();
        test.play();
        test.farArguments();
        test.checks.end();
    }

    private void newObject() {
        FlippedBlinds other = withWords("a");
        other.show(0, 0);
        other.set(0, 9);
        FlippedBlinds x = new FlippedBlinds();
        for (int column = 0; column < 24; column++) {
            for (int what = 0; what < 4; what++) {
                due("new: disc of blind 0", x.disc(0, column, column % 5, what), 0);
                due("new: disc of blind 1", x.disc(1, column, column % 5, what), column < 16 ? 0 : INVALID);
            }
        }
        for (int what = 0; what <= 6; what++) {
            due("new: count " + what, x.count(what), 0);
        }
        due("new: setting 0", x.count(20), 2);
        due("new: setting 1", x.count(21), 20);
        for (int blind = 0; blind < 2; blind++) {
            for (int what = 0; what < 8; what++) {
                due("new: blindOf " + what, x.blindOf(blind, what), what >= 4 && what <= 6 ? NOTHING : 0);
            }
            due("new: closest", x.closest(blind, 0), NOTHING);
        }
        due("new: fault", x.fault(0), NOTHING);
        due("new: undo", x.undo(), IMPOSSIBLE);
        due("new: wordOf", x.wordOf(0, 0), INVALID);
    }

    private void word() {
        FlippedBlinds x = new FlippedBlinds();
        int[] wrong = {
            0, -1, Integer.MIN_VALUE, Integer.MAX_VALUE, 17, 31, letters("a") * 32, 17 * 32 + 1, 1 | 1 << 10,
            1 | 1 << 30, letters("pppppp") | 1 << 30, letters("aaaaaa") | 1 << 31, 17 << 25 | letters("aaaaa"),
            1 << 30, 0x3fffffff
        };
        for (int letters : wrong) {
            due("word(" + letters + ")", x.word(letters), INVALID);
        }
        due("wrong words are no changes", x.count(5), 0);
        due("word ab", x.word(letters("ab")), 0);
        due("word ba", x.word(letters("ba")), 1);
        due("word a", x.word(letters("a")), 2);
        due("word of six", x.word(letters("pppppp")), 3);
        due("its letters", x.wordOf(3, 0), letters("pppppp"));
        due("the same word", x.word(letters("ba")), IMPOSSIBLE);
        for (int i = 4; i < 10; i++) {
            due("word " + i, x.word(i), i);
        }
        due("an eleventh word", x.word(11), LIMIT);
        due("the same word of ten", x.word(letters("ba")), IMPOSSIBLE);
        due("a wrong word of ten", x.word(17), INVALID);
        due("words", x.count(0), 10);
        due("unword", x.unword(0), 9);
        due("a word after one was taken away", x.word(letters("ab")), 9);
    }

    private void unword() {
        FlippedBlinds x = withWords("a", "h", "iii", "c");
        x.show(1, 0);
        x.show(2, 0);
        x.show(2, 0);
        int bright = x.blindOf(0, 0);
        due("unword(4)", x.unword(4), INVALID);
        due("unword(-1)", x.unword(-1), INVALID);
        due("unword(1)", x.unword(1), 3);
        due("the word behind it", x.wordOf(1, 0), letters("iii"));
        due("how often that was shown", x.wordOf(1, 4), 2);
        due("how wide that is", x.wordOf(1, 2), 11);
        due("the last word", x.wordOf(2, 0), letters("c"));
        due("no more words", x.wordOf(3, 0), INVALID);
        due("unword(1) again", x.unword(1), 2);
        due("the blind stays as it is", x.blindOf(0, 0), bright);
        due("what is wanted stays", x.blindOf(0, 2), 0);
        due("words shown stay counted", x.count(4), 3);
        due("unword the last one", x.unword(1), 1);
        due("unword the first one", x.unword(0), 0);
        due("unword without words", x.unword(0), INVALID);
        due("word again", x.word(letters("iii")), 0);
        due("it was not shown yet", x.wordOf(0, 4), 0);
    }

    private void show() {
        FlippedBlinds x = withWords("a", "h", "aaaaa");
        due("show(3, 0)", x.show(3, 0), INVALID);
        due("show(-1, 0)", x.show(-1, 0), INVALID);
        due("show(0, 2)", x.show(0, 2), INVALID);
        due("show(0, -1)", x.show(0, -1), INVALID);
        due("too wide, and no such blind", x.show(2, 2), INVALID);
        due("too wide", x.show(2, 1), IMPOSSIBLE);
        due("as wide as the blind allows", x.show(2, 0), 0);
        due("it is bright", x.blindOf(0, 0), 50);
        due("show a instead", x.show(0, 0), 0);
        due("it is bright alone", x.blindOf(0, 0), 10);
        due("flips", x.blindOf(0, 3), 90);
        int[] rowsOfA = {2, 5, 7, 5, 5};
        for (int row = 0; row < 5; row++) {
            for (int column = 0; column < 3; column++) {
                int dot = rowsOfA[row] >> (2 - column) & 1;
                due("a at " + column + ", " + row, x.disc(0, column, row, 0), dot);
            }
            due("the column behind a", x.disc(0, 3, row, 0), 0);
        }
        x = withWords("a", "h");
        due("setting 0 is the margin", x.set(0, 3), 2);
        due("show with that margin", x.show(0, 1), 0);
        due("setting 0 is more", x.set(0, 4), 3);
        due("show with less", x.show(1, 1), IMPOSSIBLE);
        due("that changed nothing", x.count(4), 1);
        // Row 0 tells a (2) from h (5). Its middle dot at shift 0 is stuck dark now: 0 is 2 from h and
        // 1 from a. At shift 1 the same disc is the left one, which a wants dark.
        x.set(0, 1);
        x.stick(1, 1, 0, 0);
        due("margin at 0", x.margin(0, 1, 0), 1001);
        due("margin at 1", x.margin(0, 1, 1), 1003);
        due("the shift with the greatest margin", x.show(0, 1), 1);
    }

    private void wearByShowing() {
        FlippedBlinds x = withWords("i");
        due("setting 1", x.set(1, 3), 20);
        due("show", x.show(0, 0), 0);
        due("blank", x.blank(0), 0);
        due("no disc is stuck by two flips", x.count(2), 0);
        due("show again", x.show(0, 0), 0);
        due("all its discs are stuck by three", x.count(2), 9);
        due("stuck on the blind", x.blindOf(0, 1), 9);
        due("they stay bright", x.blank(0), 9);
        due("flips", x.blindOf(0, 3), 27);
        due("unlike what is wanted", x.blindOf(0, 2), 9);
        due("a disc's wear", x.disc(0, 0, 0, 2), 3);
        due("free it", x.stick(0, 0, 0, 2), 8);
        due("its wear stays", x.disc(0, 0, 0, 2), 3);
        due("it flips once and is stuck dark", x.blank(0), 8);
        due("so it is stuck", x.disc(0, 0, 0, 1), 1);
        due("its wear is more than the setting", x.disc(0, 0, 0, 2), 4);
        due("stuck by wear so far", x.count(2), 10);
        // A lower setting sticks nothing until a disc is flipped.
        x = withWords("i");
        x.show(0, 1);
        x.blank(1);
        x.show(0, 1);
        x.set(1, 2);
        due("no disc is stuck by a setting", x.blindOf(1, 1), 0);
        due("nor by a picture that flips none", x.show(0, 1), 0);
        due("still none", x.blindOf(1, 1), 0);
        due("but by the next flip", x.blank(1), 0);
        due("all of them", x.blindOf(1, 1), 9);
    }

    private void blank() {
        FlippedBlinds x = withWords("e");
        due("blank(2)", x.blank(2), INVALID);
        due("blank(-1)", x.blank(-1), INVALID);
        x.show(0, 0);
        x.show(0, 1);
        x.stick(0, 20, 4, 1);
        due("blank(0)", x.blank(0), 1);
        due("discs that are unlike", x.blindOf(0, 2), 1);
        due("bright is wanted nowhere", x.disc(0, 0, 0, 3), 0);
        due("the other blind stays", x.blindOf(1, 0), 10);
        due("blank it too", x.blank(1), 0);
        due("flips of both", x.count(1), 40);
        due("wear", x.disc(1, 0, 0, 2), 2);
        due("blank counts as no word shown", x.count(4), 2);
    }

    private void stick() {
        FlippedBlinds x = new FlippedBlinds();
        due("stick(2, 0, 0, 0)", x.stick(2, 0, 0, 0), INVALID);
        due("stick(-1, 0, 0, 0)", x.stick(-1, 0, 0, 0), INVALID);
        due("column 24", x.stick(0, 24, 0, 0), INVALID);
        due("column -1", x.stick(0, -1, 0, 0), INVALID);
        due("column 16", x.stick(1, 16, 0, 0), INVALID);
        due("row 5", x.stick(0, 0, 5, 0), INVALID);
        due("row -1", x.stick(0, 0, -1, 0), INVALID);
        due("state 3", x.stick(0, 0, 0, 3), INVALID);
        due("state -1", x.stick(0, 0, 0, -1), INVALID);
        due("wrong ones are no changes", x.count(5), 0);
        due("stick bright", x.stick(0, 23, 4, 1), 1);
        due("it is bright", x.disc(0, 23, 4, 0), 1);
        due("it is stuck", x.disc(0, 23, 4, 1), 1);
        due("stick dark", x.stick(0, 12, 0, 0), 2);
        due("it is dark", x.disc(0, 12, 0, 0), 0);
        due("it is stuck", x.disc(0, 12, 0, 1), 1);
        due("stick the first dark", x.stick(0, 23, 4, 0), 2);
        due("it is dark", x.disc(0, 23, 4, 0), 0);
        due("stick it bright", x.stick(0, 23, 4, 1), 2);
        due("free it", x.stick(0, 23, 4, 2), 1);
        due("it stays bright", x.disc(0, 23, 4, 0), 1);
        due("it is free", x.disc(0, 23, 4, 1), 0);
        due("free a free one", x.stick(0, 0, 0, 2), 1);
        due("the other blind", x.stick(1, 15, 4, 1), 1);
        due("no flips", x.count(1), 0);
        due("no wear", x.disc(0, 23, 4, 2), 0);
        due("not stuck by wear", x.count(2), 0);
        due("unlike what is wanted", x.blindOf(0, 2), 1);
    }

    private void repair() {
        FlippedBlinds x = withWords("i");
        due("repair(2, 0)", x.repair(2, 0), INVALID);
        due("repair(-1, 0)", x.repair(-1, 0), INVALID);
        due("repair(0, 24)", x.repair(0, 24), INVALID);
        due("repair(1, 16)", x.repair(1, 16), INVALID);
        due("repair(0, -1)", x.repair(0, -1), INVALID);
        due("none was repaired", x.count(3), 0);
        x.show(0, 1);
        x.stick(1, 0, 0, 1);
        x.stick(1, 0, 3, 1);
        x.stick(1, 0, 4, 0);
        x.stick(1, 1, 1, 0);
        due("repair(1, 0)", x.repair(1, 0), 3);
        due("free", x.disc(1, 0, 3, 1), 0);
        due("as it is, bright", x.disc(1, 0, 3, 0), 1);
        due("as it is, dark", x.disc(1, 0, 4, 0), 0);
        due("no wear", x.disc(1, 0, 0, 2), 0);
        due("wear of the next column stays", x.disc(1, 1, 0, 2), 1);
        due("stuck ones of the next column", x.blindOf(1, 1), 1);
        due("what is wanted stays", x.disc(1, 0, 0, 3), 1);
        due("repair again", x.repair(1, 0), 0);
        due("the last column", x.repair(1, 15), 0);
        due("and of the other blind", x.repair(0, 23), 0);
        due("columns repaired", x.count(3), 4);
    }

    private void set() {
        FlippedBlinds x = new FlippedBlinds();
        due("set(0, 0)", x.set(0, 0), INVALID);
        due("set(0, 10)", x.set(0, 10), INVALID);
        due("set(1, 1)", x.set(1, 1), INVALID);
        due("set(1, 100)", x.set(1, 100), INVALID);
        due("set(2, 5)", x.set(2, 5), INVALID);
        due("set(-1, 5)", x.set(-1, 5), INVALID);
        due("set(0, 9)", x.set(0, 9), 2);
        due("set(0, 1)", x.set(0, 1), 9);
        due("set(1, 99)", x.set(1, 99), 20);
        due("set(1, 2)", x.set(1, 2), 99);
        due("set(1, 2) again", x.set(1, 2), 2);
        due("setting 0", x.count(20), 1);
        due("setting 1", x.count(21), 2);
    }

    private void disc() {
        FlippedBlinds x = withWords("f");
        due("blind 2", x.disc(2, 0, 0, 0), INVALID);
        due("blind -1", x.disc(-1, 0, 0, 0), INVALID);
        due("column 24", x.disc(0, 24, 0, 0), INVALID);
        due("column 16", x.disc(1, 16, 0, 0), INVALID);
        due("column -1", x.disc(0, -1, 0, 0), INVALID);
        due("row 5", x.disc(0, 0, 5, 0), INVALID);
        due("row -1", x.disc(0, 0, -1, 0), INVALID);
        due("what 4", x.disc(0, 0, 0, 4), INVALID);
        due("what -1", x.disc(0, 0, 0, -1), INVALID);
        x.stick(0, 0, 0, 0);
        x.stick(0, 23, 4, 1);
        // f is 74644: with a dot of it stuck dark at shift 0; alone it is shown there all the same.
        due("show", x.show(0, 0), 0);
        due("stuck dark", x.disc(0, 0, 0, 0), 0);
        due("bright is wanted there", x.disc(0, 0, 0, 3), 1);
        due("no wear there", x.disc(0, 0, 0, 2), 0);
        due("stuck", x.disc(0, 0, 0, 1), 1);
        due("a flipped one", x.disc(0, 1, 0, 0), 1);
        due("its wear", x.disc(0, 1, 0, 2), 1);
        due("it is free", x.disc(0, 1, 0, 1), 0);
        due("the last row", x.disc(0, 0, 4, 0), 1);
        due("a dark one of it", x.disc(0, 1, 4, 0), 0);
        due("stuck bright", x.disc(0, 23, 4, 0), 1);
        due("dark is wanted there", x.disc(0, 23, 4, 3), 0);
    }

    private void blindOf() {
        FlippedBlinds x = new FlippedBlinds();
        due("blind 2", x.blindOf(2, 0), INVALID);
        due("blind -1", x.blindOf(-1, 0), INVALID);
        due("what 9", x.blindOf(0, 9), INVALID);
        due("what -1", x.blindOf(0, -1), INVALID);
        due("what 9 without words", x.blindOf(0, 9), INVALID);
        due("columns", x.blindOf(0, 8), 24);
        due("columns", x.blindOf(1, 8), 16);
        x.word(letters("hhhhh"));
        due("no word can stand on it", x.blindOf(1, 4), NOTHING);
        due("nor is there a shift", x.blindOf(1, 5), NOTHING);
        due("nor how far", x.blindOf(1, 6), NOTHING);
        due("on the other it can", x.blindOf(0, 4), 0);
        due("dark is read as the lowest shift", x.blindOf(0, 5), 0);
        due("so far off", x.blindOf(0, 6), 55);
        x.word(letters("l"));
        x.word(letters("j"));
        // l is 44447 with 7 dots, j is 11152 with 6.
        due("dark is read as the word with the fewest dots", x.blindOf(0, 4), 2);
        due("so far off", x.blindOf(0, 6), 6);
        due("words to be shown", x.blindOf(0, 7), 7);
        due("words to be shown on the narrow one", x.blindOf(1, 7), 6);
        x.stick(0, 5, 0, 1);
        x.stick(0, 7, 0, 1);
        due("bright", x.blindOf(0, 0), 2);
        due("stuck", x.blindOf(0, 1), 2);
        due("unlike what is wanted", x.blindOf(0, 2), 2);
        due("flips", x.blindOf(0, 3), 0);
        due("read as j still", x.blindOf(0, 4), 2);
        due("where one dot is like it", x.blindOf(0, 5), 3);
        due("as far as that", x.blindOf(0, 6), 6);
        // l is 5 from j where its left column is j's right one, which no j can be at the shifts 0 and 1
        // of l: it is 9 from j there; so is j at its last two shifts.
        x.set(0, 9);
        due("words to be shown with 9", x.blindOf(1, 7), 6);
        x.stick(1, 0, 0, 0);
        due("l stands at shift 1", x.blindOf(1, 7), 6);
        x.stick(1, 1, 0, 0);
        due("l can be shown no more", x.blindOf(1, 7), 4);
        x.stick(1, 14, 0, 0);
        x.stick(1, 15, 0, 0);
        due("nor can j", x.blindOf(1, 7), 0);
    }

    private void wordOf() {
        FlippedBlinds x = withWords("abc", "p", "gggggg");
        due("wordOf(3, 0)", x.wordOf(3, 0), INVALID);
        due("wordOf(-1, 0)", x.wordOf(-1, 0), INVALID);
        due("wordOf(0, 5)", x.wordOf(0, 5), INVALID);
        due("wordOf(0, -1)", x.wordOf(0, -1), INVALID);
        due("letters", x.wordOf(0, 0), 1 * 1024 + 2 * 32 + 3);
        due("how many", x.wordOf(0, 1), 3);
        due("how wide", x.wordOf(0, 2), 11);
        due("dots of abc", x.wordOf(0, 3), 10 + 10 + 7);
        due("how many of p", x.wordOf(1, 1), 1);
        due("how wide is p", x.wordOf(1, 2), 3);
        due("dots of p", x.wordOf(1, 3), 8);
        due("how many", x.wordOf(2, 1), 6);
        due("how wide", x.wordOf(2, 2), 23);
        due("dots of g", x.wordOf(2, 3), 6 * 9);
        x.show(1, 0);
        x.show(1, 1);
        x.show(0, 1);
        due("how often p was shown", x.wordOf(1, 4), 2);
        due("how often abc was shown", x.wordOf(0, 4), 1);
        due("how often g was shown", x.wordOf(2, 4), 0);
        int[] dots = {10, 10, 7, 10, 10, 8, 9, 11, 9, 6, 10, 7, 12, 10, 8, 8};
        for (int letter = 1; letter <= 16; letter++) {
            x = new FlippedBlinds();
            x.word(letter);
            due("dots of letter " + letter, x.wordOf(0, 3), dots[letter - 1]);
        }
    }

    private void margin() {
        FlippedBlinds x = withWords("a");
        due("word 1", x.margin(1, 0, 0), INVALID);
        due("word -1", x.margin(-1, 0, 0), INVALID);
        due("blind 2", x.margin(0, 2, 0), INVALID);
        due("shift -1", x.margin(0, 0, -1), INVALID);
        due("shift 22", x.margin(0, 0, 22), INVALID);
        due("shift 14", x.margin(0, 1, 14), INVALID);
        x.stick(0, 0, 0, 1);
        due("alone, whatever is stuck", x.margin(0, 0, 0), 1099);
        due("alone at the last shift", x.margin(0, 0, 21), 1099);
        x.word(letters("hhhhh"));
        due("alone on the narrow blind", x.margin(0, 1, 13), 1099);
        due("a word that cannot stand there", x.margin(1, 1, 0), INVALID);
        // The second h of hhhhh at shift 0 is 3 from a, its other four are 11 dots each, but one of
        // these is stuck bright; that one is also 1 from a.
        due("not alone on the wide one", x.margin(0, 0, 4), 1000 + 3 + 4 * 11 - 1 - 1);
        // b is 65656, d is 65556: two dots tell them apart, at column 1 and 2 of row 2.
        x = withWords("b", "d");
        due("b from d", x.margin(0, 0, 3), 1002);
        x.stick(0, 4, 2, 0);
        due("one of these is stuck as in d", x.margin(0, 0, 3), 1000);
        due("d from b", x.margin(1, 0, 3), 1002);
        x.stick(0, 5, 2, 1);
        due("both are stuck as in d", x.margin(0, 0, 3), 998);
        due("d from b", x.margin(1, 0, 3), 1002);
        due("wear is not counted", x.set(1, 2), 20);
        due("so it stays", x.margin(1, 0, 3), 1002);
    }

    private void would() {
        FlippedBlinds x = withWords("b", "d", "aaaaa");
        due("word 3", x.would(3, 0, 0), INVALID);
        due("word -1", x.would(-1, 0, 0), INVALID);
        due("blind 2", x.would(0, 2, 0), INVALID);
        due("what 5", x.would(0, 0, 5), INVALID);
        due("what -1", x.would(0, 0, -1), INVALID);
        due("too wide, and what 5", x.would(2, 1, 5), INVALID);
        due("too wide", x.would(2, 1, 0), IMPOSSIBLE);
        x.set(1, 4);
        x.show(0, 1);
        due("nothing to be flipped", x.would(0, 1, 2), 0);
        due("two discs to be flipped", x.would(1, 1, 2), 2);
        due("the shift", x.would(1, 1, 0), 0);
        due("the margin", x.would(1, 1, 1), 2);
        due("none of them stuck by that", x.would(1, 1, 3), 0);
        x.show(1, 1);
        x.show(0, 1);
        due("two discs to be flipped", x.would(1, 1, 2), 2);
        due("the one that was bright at first would be stuck", x.would(1, 1, 3), 1);
        due("none unlike then", x.would(1, 1, 4), 0);
        due("asking changes nothing", x.blindOf(1, 1), 0);
        due("nor the flips", x.count(1), 14);
        x.show(1, 1);
        due("one is stuck", x.blindOf(1, 1), 1);
        x.set(0, 3);
        due("it can be shown no more", x.would(0, 1, 0), IMPOSSIBLE);
        x.set(0, 2);
        // Stuck bright discs at both ends are unlike every picture of a word in the middle.
        x = withWords("i");
        x.stick(1, 15, 4, 1);
        x.stick(1, 0, 0, 1);
        x.stick(1, 0, 1, 1);
        due("alone it would stand at 0", x.would(0, 1, 0), 0);
        due("its margin", x.would(0, 1, 1), 99);
        due("8 dots are dark and free", x.would(0, 1, 2), 8);
        due("unlike what is wanted then", x.would(0, 1, 4), 2);
    }

    private void closest() {
        FlippedBlinds x = withWords("a");
        due("blind 2", x.closest(2, 0), INVALID);
        due("blind -1", x.closest(-1, 0), INVALID);
        due("what 3", x.closest(0, 3), INVALID);
        due("what -1", x.closest(0, -1), INVALID);
        due("one word", x.closest(0, 0), NOTHING);
        x.word(letters("aaaaa"));
        due("one that can stand", x.closest(1, 2), NOTHING);
        due("two that can", x.closest(0, 2), 40);
        x.word(letters("h"));
        x.word(letters("b"));
        x.word(letters("d"));
        // b and d are 2 apart, a and h 3.
        due("lower", x.closest(0, 0), 3);
        due("higher", x.closest(0, 1), 4);
        due("how far", x.closest(0, 2), 2);
        x.stick(0, 0, 0, 1);
        due("stuck discs do not count", x.closest(0, 2), 2);
        x.unword(4);
        due("lower", x.closest(1, 0), 0);
        due("higher", x.closest(1, 1), 2);
        due("how far", x.closest(1, 2), 3);
        // The same letters with one more: the pictures are nearest at unlike shifts.
        x = withWords("la", "a");
        due("how far", x.closest(0, 2), 7);
        x = withWords("al", "a");
        due("how far", x.closest(0, 2), 7);
        // a is 3 from h, and so is ai from hi: the lowest words of several.
        x = withWords("ai", "hi", "a", "h");
        due("lower of several", x.closest(0, 0), 0);
        due("higher of several", x.closest(0, 1), 1);
    }

    private void bestRepair() {
        FlippedBlinds x = withWords("b", "d", "aaaaa");
        due("word 3", x.bestRepair(3, 0, 0), INVALID);
        due("word -1", x.bestRepair(-1, 0, 0), INVALID);
        due("blind 2", x.bestRepair(0, 2, 0), INVALID);
        due("what 2", x.bestRepair(0, 0, 2), INVALID);
        due("what -1", x.bestRepair(0, 0, -1), INVALID);
        due("too wide, and what 2", x.bestRepair(2, 1, 2), INVALID);
        due("too wide", x.bestRepair(2, 1, 0), IMPOSSIBLE);
        due("nothing is stuck", x.bestRepair(0, 0, 0), 0);
        due("the margin all the same", x.bestRepair(0, 0, 1), 1002);
        // Row 2 is stuck as in d at each shift of the narrow blind: dark at all columns.
        for (int column = 0; column < 16; column++) {
            x.stick(1, column, 2, 0);
        }
        // b then lacks two dots of row 2 and is 1 from d, less its own 2; with its middle column
        // repaired it lacks one, and d, which has none there, is 2 + 1 off.
        due("the margin now", x.margin(0, 1, 5), 1000);
        due("the column", x.bestRepair(0, 1, 0), 1);
        due("the margin then", x.bestRepair(0, 1, 1), 1002);
        due("asking changes nothing", x.blindOf(1, 1), 16);
        due("nor what is repaired", x.count(3), 0);
        due("nor the history", x.count(5), 4);
        due("repair it", x.repair(1, 1), 1);
        due("the margin it has", x.margin(0, 1, 0), 1002);
        due("shown there", x.show(0, 1), 0);
        // Row 0 of the fourth letter tells these two. At shift 0 its left dot is stuck bright, at
        // shift 1 its left and its right one are.
        x = withWords("aaaaaa", "aaahaa");
        x.stick(0, 12, 0, 1);
        x.stick(0, 13, 0, 1);
        x.stick(0, 15, 0, 1);
        due("margin at 0", x.margin(0, 0, 0), 1001);
        due("margin at 1", x.margin(0, 0, 1), 999);
        due("the column that makes 0 whole", x.bestRepair(0, 0, 0), 12);
        due("the margin then", x.bestRepair(0, 0, 1), 1003);
    }

    private void count() {
        FlippedBlinds x = withWords("b", "d");
        due("what 7", x.count(7), INVALID);
        due("what -1", x.count(-1), INVALID);
        due("what 19", x.count(19), INVALID);
        due("what 22", x.count(22), INVALID);
        x.set(1, 2);
        x.show(0, 0);
        x.show(1, 0);
        x.show(0, 1);
        x.blank(1);
        x.blank(1);
        x.show(5, 0);
        x.repair(0, 3);
        x.repair(1, 3);
        x.repair(1, 33);
        x.type('a');
        x.type(1);
        due("words", x.count(0), 2);
        due("flips", x.count(1), 12 + 20);
        due("stuck by wear", x.count(2), 11);
        due("repaired", x.count(3), 2);
        due("shown", x.count(4), 3);
        due("states", x.count(5), 4);
        due("text", x.count(6), 1);
        due("setting 0", x.count(20), 2);
        due("setting 1", x.count(21), 2);
        due("flips of blind 1", x.blindOf(1, 3), 20);
    }

    private void undo() {
        FlippedBlinds x = new FlippedBlinds();
        due("nothing to undo", x.undo(), IMPOSSIBLE);
        for (int i = 0; i < 6; i++) {
            x.set(0, 3 + i);
            due("states", x.count(5), Math.min(4, i + 1));
        }
        for (int i = 3; i >= 0; i--) {
            due("states left", x.undo(), i);
            due("setting 0", x.count(20), 4 + i);
        }
        due("no more", x.undo(), IMPOSSIBLE);
        due("setting 0 stays", x.count(20), 4);
        x.set(5, 5);
        x.show(0, 0);
        due("errors are no changes", x.count(5), 0);
        x.set(0, 9);
        due("undo is no change", x.undo(), 0);
        due("so there is none", x.count(5), 0);
        x.type('a');
        x.set(0, 9);
        x.type('b');
        due("undo", x.undo(), 0);
        due("the text is not recorded", x.count(6), 2);
    }

    private void undoOfAll() {
        FlippedBlinds x = withWords("b", "d");
        x.show(0, 0);
        x.set(1, 2);
        x.show(1, 0);
        due("stuck by wear", x.count(2), 1);
        due("undo show", x.undo(), 3);
        due("stuck by wear", x.count(2), 0);
        due("stuck", x.blindOf(0, 1), 0);
        due("wear", x.disc(0, 1, 2, 2), 1);
        due("bright", x.disc(0, 1, 2, 0), 1);
        due("wanted", x.disc(0, 1, 2, 3), 1);
        due("flips", x.blindOf(0, 3), 10);
        due("shown", x.count(4), 1);
        due("shown of it", x.wordOf(1, 4), 0);
        due("repair", x.repair(0, 0), 0);
        due("undo repair", x.undo(), 3);
        due("repaired", x.count(3), 0);
        due("wear", x.disc(0, 0, 0, 2), 1);
        due("unword", x.unword(0), 1);
        due("undo unword", x.undo(), 3);
        due("the word is there", x.wordOf(0, 0), letters("b"));
        due("its picture, too", x.blindOf(0, 6), 0);
        due("how often it was shown", x.wordOf(0, 4), 1);
        due("blank", x.blank(0), 0);
        due("stuck by it", x.blindOf(0, 1), 10);
        due("undo blank", x.undo(), 3);
        due("not stuck", x.blindOf(0, 1), 0);
        due("undo set", x.undo(), 2);
        due("setting 1", x.count(21), 20);
        due("undo show", x.undo(), 1);
        due("dark", x.blindOf(0, 0), 0);
        due("undo word", x.undo(), 0);
        due("words", x.count(0), 1);
    }

    private void type() {
        FlippedBlinds x = new FlippedBlinds();
        due("type(31)", x.type(31), INVALID);
        due("type(127)", x.type(127), INVALID);
        due("type(-1)", x.type(-1), INVALID);
        due("type of a sign and 65536", x.type(65536 + 'a'), INVALID);
        due("type(32)", x.type(32), 1);
        due("type(126)", x.type(126), 2);
        for (int length = 3; length <= 60; length++) {
            due("type", x.type('x'), length);
        }
        due("one too many", x.type('x'), LIMIT);
        due("one too many, and wrong", x.type(31), INVALID);
        due("length", x.count(6), 60);
        due("typing is no change", x.count(5), 0);
    }

    private void clearText() {
        FlippedBlinds x = new FlippedBlinds();
        due("empty", x.clearText(), 0);
        typeAll(x, "b0;");
        due("clearText", x.clearText(), 3);
        due("empty then", x.count(6), 0);
        due("clearText again", x.clearText(), 0);
        due("no change", x.count(5), 0);
        due("type again", x.type('b'), 1);
        typeAll(x, "0123456789012345678901234567890123456789012345678901234567890");
        due("a full text", x.clearText(), 60);
    }

    private void fault() {
        FlippedBlinds x = withWords("a");
        due("what 3", x.fault(3), INVALID);
        due("what -1", x.fault(-1), INVALID);
        for (int what = 0; what < 3; what++) {
            due("no text", x.fault(what), NOTHING);
        }
        dueFault("wa;", 0, 2, IMPOSSIBLE);
        dueFault("wb;wb;", 3, 2, IMPOSSIBLE);
        dueFault("s1,0;", 0, 2, INVALID);
        dueFault("s0,2;", 0, 2, INVALID);
        dueFault("wh;s01,00;s2,0;", 10, 2, INVALID);
        dueFault("waaaaa;s1,1;", 7, 2, IMPOSSIBLE);
        dueFault("b0;b1;b2;", 6, 2, INVALID);
        dueFault("k0,23,4,2;k0,24,0,0;", 10, 2, INVALID);
        dueFault("k1,15,4,2;k1,16,0,0;", 10, 2, INVALID);
        dueFault("k0,0,5,0;", 0, 2, INVALID);
        dueFault("k0,0,0,3;", 0, 2, INVALID);
        dueFault("r0,23;r1,16;", 6, 2, INVALID);
        dueFault("wb;wc;wd;we;wf;wg;wh;wi;wj;wk;", 27, 2, LIMIT);
        dueFault("s1,0;x", 0, 2, INVALID);
        dueFault("b0;x", 3, 1, 0);
        dueOrders("wb;s1,0;s1,1;k0,0,0,1;r0,0;b1;", 6);
        dueOrders("wabcdef;wp;s02,01;", 3);
    }

    /** Texts that are not of the form, at the first order. */
    private void faultForms() {
        String[] texts = {
            ";", "x", " ", "W", "w", "w;", "wq;", "wA;", "w`;", "wabcdefg;", "wabcdef", "wabc d;", "wa", "wab,",
            "s", "s;", "s,", "s0", "s0;", "s0,", "s0,;", "s0,0", "s00,00", "s000,0;", "s0,000;", "s0,0,0;", "s-1,0;",
            "s0 ,0;", "s/,0;", "s:,0;", "b", "b;", "b0", "b0,", "b00", "b000;", "b0 ;", "k", "k0,0,0;", "k0,0,0,",
            "k0,0,0,0", "k00,00,00,00", "k00,00,00,000", "k0,0,0,0,", "r", "r0;", "r0,0", "r0,0,", "r0,0 ;", "r0,x;"
        };
        int[] breaks = {
            0, 0, 0, 0, 1, 1, 1, 1, 1, 7, 7, 4, 2, 3,
            1, 1, 1, 2, 2, 3, 3, 4, 6, 3, 5, 4, 1,
            2, 1, 1, 1, 1, 2, 2, 3, 3, 2, 1, 6, 7,
            8, 12, 12, 8, 1, 2, 4, 4, 4, 3
        };
        due("a number for each text", texts.length, breaks.length);
        for (int i = 0; i < texts.length && i < breaks.length; i++) {
            dueFault(texts[i], 0, 1, breaks[i]);
            dueFault("b00;" + texts[i], 4, 1, breaks[i]);
        }
    }

    private void play() {
        FlippedBlinds x = new FlippedBlinds();
        due("no orders", x.play(), 0);
        due("one change all the same", x.count(5), 1);
        typeAll(x, "wb;wd;s0,0;s01,1;k0,23,04,1;r0,0;");
        due("six orders", x.play(), 6);
        due("one change", x.count(5), 2);
        due("the text stays", x.count(6), 33);
        due("words", x.count(0), 2);
        due("word 0", x.wordOf(0, 0), letters("b"));
        due("word 1", x.wordOf(1, 0), letters("d"));
        due("b is read on blind 0", x.blindOf(0, 4), 0);
        due("d is read on blind 1", x.blindOf(1, 4), 1);
        due("stuck bright", x.disc(0, 23, 4, 0), 1);
        due("stuck", x.blindOf(0, 1), 1);
        due("repaired", x.count(3), 1);
        due("wear of the repaired column", x.disc(0, 0, 0, 2), 0);
        due("wear of the next one", x.disc(0, 1, 0, 2), 1);
        due("shown", x.count(4), 2);
        due("again it has a fault", x.play(), IMPOSSIBLE);
        due("that was no change", x.count(5), 2);
        due("undo all orders at once", x.undo(), 1);
        due("no words", x.count(0), 0);
        due("dark", x.blindOf(0, 0), 0);
        due("the text stays", x.count(6), 33);
        due("it can be played again", x.play(), 6);
        typeAll(x, "b0;b1;b0;b1;b0;b1;b0;b1;b0;b1;b0;b1;b0;b1;b0;b1;b0;b1;b0;b1;");
        due("a full text", x.play(), 20);
        due("one state for each play", x.count(5), 3);
        typeAll(x, "b0;s0,0;b9;");
        due("orders ahead of the fault", x.play(), IMPOSSIBLE);
        due("are not done", x.count(4), 2);
    }

    /** Arguments from far outside, at each place of each call. */
    private void farArguments() {
        FlippedBlinds x = withWords("b", "d");
        for (int far : FAR_ARGUMENTS) {
            int[] answers = {
                x.unword(far), x.show(far, 0), x.show(0, far), x.blank(far),
                x.stick(far, 0, 0, 0), x.stick(0, far, 0, 0), x.stick(0, 0, far, 0), x.stick(0, 0, 0, far),
                x.repair(far, 0), x.repair(0, far), x.set(far, 2), x.set(0, far), x.set(1, far),
                x.disc(far, 0, 0, 0), x.disc(0, far, 0, 0), x.disc(0, 0, far, 0), x.disc(0, 0, 0, far),
                x.blindOf(far, 0), x.blindOf(0, far), x.wordOf(far, 0), x.wordOf(0, far),
                x.margin(far, 0, 0), x.margin(0, far, 0), x.margin(0, 0, far),
                x.would(far, 0, 0), x.would(0, far, 0), x.would(0, 0, far), x.closest(far, 0), x.closest(0, far),
                x.bestRepair(far, 0, 0), x.bestRepair(0, far, 0), x.bestRepair(0, 0, far),
                x.count(far), x.type(far), x.fault(far)
            };
            for (int i = 0; i < answers.length; i++) {
                due("far argument " + far + " of call " + i, answers[i], INVALID);
            }
        }
        due("nothing changed", x.count(5), 2);
    }
}
