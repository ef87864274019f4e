/** The sentences of the promises 9 to 16 that name a boundary, each at it and one beyond it. */
public final class EdgesOfAnswersTest extends TestOfBlinds {
    public static void main(String[] args) {
        EdgesOfAnswersTest test = new EdgesOfAnswersTest();
        test.discAtTheCorners();
        test.discWear();
        test.discWanted();
        test.blindOfNothing();
        test.blindOfAllDiscs();
        test.blindOfFlips();
        test.blindOfReadings();
        test.blindOfNoWordThatCanStand();
        test.blindOfWordsToShow();
        test.wordOfLeastAndGreatest();
        test.wordOfShown();
        test.marginPlus1000();
        test.marginOfNearestShift();
        test.marginOfAllOthers();
        test.wouldBeLikeShow();
        test.wouldFlipNoneOrAll();
        test.wouldStick();
        test.wouldStayUnlike();
        test.wouldAtSetting0();
        test.closestOfFewerThanTwo();
        test.closestAtUnlikeShifts();
        test.closestAtTheEnds();
        test.closestOnUnlikeBlinds();
        test.closestOfSeveral();
        test.closestWithStuckDiscs();
        test.bestRepairAtEachEnd();
        test.bestRepairOfEachColumn();
        test.bestRepairOfSeveral();
        test.bestRepairOfNothing();
        test.bestRepairAlone();
        test.bestRepairOfAllShifts();
        test.countAtFirst();
        test.countOfEach();
        test.checks.end();
    }

    private void discAtTheCorners() {
        sentence("Promise 9: Returns something of a disc");
        for (int blind = 0; blind < 2; blind++) {
            int last = COLUMNS[blind] - 1;
            for (int column : new int[] {0, 11, 12, last}) {
                for (int row = 0; row < ROWS; row++) {
                    FlippedBlinds x = new FlippedBlinds();
                    x.stick(blind, column, row, 1);
                    due("it is bright", x.disc(blind, column, row, 0), 1);
                    due("it is stuck", x.disc(blind, column, row, 1), 1);
                    due("before it", x.disc(blind, Math.max(0, column - 1), (row + 4) % 5, 0), 0);
                    due("beside it", x.disc(blind, column, (row + 1) % 5, 1), 0);
                    due("on the other blind", x.disc(1 - blind, Math.min(column, 15), row, 0), 0);
                    x.stick(blind, column, row, 2);
                    due("it is free", x.disc(blind, column, row, 1), 0);
                    x.blank(blind);
                    due("it is dark", x.disc(blind, column, row, 0), 0);
                    due("its wear", x.disc(blind, column, row, 2), 1);
                    due("wear beside it", x.disc(blind, column, (row + 1) % 5, 2), 0);
                }
            }
        }
    }

    private void discWear() {
        sentence("Promise 9: 2: its wear: above setting 1, too, if the disc was freed");
        FlippedBlinds x = withWords("i");
        x.set(1, 2);
        x.show(0, 0);
        x.blank(0);
        due("stuck with 2", x.disc(0, 2, 4, 1), 1);
        for (int wear = 3; wear <= 103; wear++) {
            x.stick(0, 2, 4, 2);
            if (wear % 2 == 1) {
                x.show(0, 0);
            } else {
                x.blank(0);
            }
            due("wear", x.disc(0, 2, 4, 2), wear);
        }
        due("stuck again", x.disc(0, 2, 4, 1), 1);
        due("by wear", x.count(2), 9 + 101);
    }

    private void discWanted() {
        sentence("Promise 9: 3: 1 if bright is wanted there (by the latest picture that was wanted; dark at first)");
        FlippedBlinds x = withWords("i", "iiiii");
        due("at first", x.disc(0, 0, 0, 3), 0);
        x.stick(0, 0, 0, 1);
        due("sticking wants nothing", x.disc(0, 0, 0, 3), 0);
        x.stick(1, 0, 0, 0);
        due("show", x.show(0, 1), 0);
        due("wanted though stuck", x.disc(1, 0, 0, 3), 1);
        due("dark is wanted", x.disc(1, 0, 1, 3), 0);
        due("not on the other blind", x.disc(0, 1, 0, 3), 0);
        due("a refused show", x.show(1, 1), IMPOSSIBLE);
        due("wants nothing", x.disc(1, 1, 0, 3), 1);
        x.repair(1, 0);
        due("a repair wants nothing", x.disc(1, 0, 0, 3), 1);
        x.blank(1);
        due("the latest picture is dark", x.disc(1, 0, 0, 3), 0);
    }

    private void blindOfNothing() {
        sentence("Promise 10: the least numbers");
        FlippedBlinds x = withWords("j");
        for (int blind = 0; blind < 2; blind++) {
            for (int what = 0; what <= 3; what++) {
                due("blindOf " + what, x.blindOf(blind, what), 0);
            }
            due("columns", x.blindOf(blind, 8), COLUMNS[blind]);
            x.show(0, blind);
            due("read exactly", x.blindOf(blind, 6), 0);
        }
    }

    private void blindOfAllDiscs() {
        sentence("Promise 10: 0: bright discs; 1: stuck ones; 2: discs that are unlike what is wanted");
        for (int blind = 0; blind < 2; blind++) {
            int discs = COLUMNS[blind] * ROWS;
            FlippedBlinds x = withWords("m");
            stickAll(x, blind, 1);
            due("bright", x.blindOf(blind, 0), discs);
            due("stuck", x.blindOf(blind, 1), discs);
            due("unlike", x.blindOf(blind, 2), discs);
            due("read as m, with 12 dots", x.blindOf(blind, 4), 0);
            due("at the lowest shift", x.blindOf(blind, 5), 0);
            due("as far as can be", x.blindOf(blind, 6), discs - 12);
            x.show(0, blind);
            due("unlike then", x.blindOf(blind, 2), discs - 12);
            x.stick(blind, 0, 0, 0);
            due("one less is bright", x.blindOf(blind, 0), discs - 1);
            due("one more is unlike", x.blindOf(blind, 2), discs - 11);
            x.stick(blind, 0, 0, 2);
            x.repair(blind, COLUMNS[blind] - 1);
            due("free discs can be unlike, too", x.blindOf(blind, 2), discs - 11);
            due("six are free", x.blindOf(blind, 1), discs - 6);
            due("on the other blind", x.blindOf(1 - blind, 0) + x.blindOf(1 - blind, 1) + x.blindOf(1 - blind, 2), 0);
        }
    }

    private void blindOfFlips() {
        sentence("Promise 10: 3: flips so far");
        FlippedBlinds x = withWords("i");
        x.show(0, 0);
        x.blank(0);
        x.show(0, 0);
        x.show(0, 1);
        due("of blind 0", x.blindOf(0, 3), 27);
        due("of blind 1", x.blindOf(1, 3), 9);
        due("of both", x.count(1), 36);
        x.repair(0, 1);
        x.unword(0);
        due("these stay", x.blindOf(0, 3), 27);
    }

    private void blindOfReadings() {
        sentence("Promise 10: 4: the word that it is read as; 5: the shift of that; 6: how far that is");
        FlippedBlinds x = new FlippedBlinds();
        for (int letter = 1; letter <= 10; letter++) {
            x.word(letter);
        }
        for (int word = 0; word < 10; word++) {
            int shift = x.show(word, 1);
            due("the word", x.blindOf(1, 4), word);
            due("its shift", x.blindOf(1, 5), shift);
            due("exactly", x.blindOf(1, 6), 0);
        }
        due("dark is the one with the fewest dots", x.blindOf(0, 4), 9);
        due("its dots", x.blindOf(0, 6), 6);
        x.unword(9);
        due("without that it is another", x.blindOf(0, 4), 2);
        due("its dots", x.blindOf(0, 6), 7);
    }

    private void blindOfNoWordThatCanStand() {
        sentence("Promise 10: NOT_FOUND for 4 to 6 if no word can stand on it");
        FlippedBlinds x = withWords("aaaaa", "bbbbbb");
        for (int what = 4; what <= 6; what++) {
            due("too wide for blind 1", x.blindOf(1, what), NOTHING);
            due("not for blind 0", x.blindOf(0, what) >= 0 ? 1 : 0, 1);
        }
        for (int what : new int[] {0, 1, 2, 3, 7}) {
            due("the others are there", x.blindOf(1, what), 0);
        }
        due("and its columns", x.blindOf(1, 8), 16);
        x.word(letters("aaaa"));
        due("a word that can", x.blindOf(1, 4), 2);
        x.unword(2);
        due("it is taken away", x.blindOf(1, 4), NOTHING);
        x.unword(0);
        x.unword(0);
        for (int what = 4; what <= 6; what++) {
            due("no words", x.blindOf(0, what), NOTHING);
        }
    }

    private void blindOfWordsToShow() {
        sentence("Promise 10: 7: words that can be shown on it, as a set");
        FlippedBlinds x = withWords("h", "k", "aaaa", "aaaaa");
        due("h and k are too alike", x.blindOf(0, 7), 4 + 8);
        due("on blind 1 a word is too wide", x.blindOf(1, 7), 4);
        x.set(0, 1);
        due("with 1 all can", x.blindOf(0, 7), 15);
        due("but for that", x.blindOf(1, 7), 7);
        stickRow(x, 1, 2, 16, 2, 0);
        due("without its dots h cannot", x.blindOf(1, 7), 6);
        due("on blind 0 it can", x.blindOf(0, 7), 15);
    }

    private void wordOfLeastAndGreatest() {
        sentence("Promise 11: 0: its letters; 1: how many; 2: how wide it is; 3: how many bright dots it has");
        int[][] words = {
            {letters("j"), 1, 3, 6, 0}, {1, 1, 3, 10, 0}, {16, 1, 3, 8, 0},
            {letters("aaaaaa"), 6, 23, 60, 0}, {letters("mmmmmm"), 6, 23, 72, 0}, {letters("pppppp"), 6, 23, 48, 0}
        };
        for (int[] due : words) {
            FlippedBlinds x = new FlippedBlinds();
            x.word(due[0]);
            for (int what = 0; what <= 4; what++) {
                due("wordOf " + what + " of " + due[0], x.wordOf(0, what), due[what]);
            }
            due("wordOf 5", x.wordOf(0, 5), INVALID);
            due("wordOf -1", x.wordOf(0, -1), INVALID);
            due("word 1", x.wordOf(1, 0), INVALID);
        }
    }

    private void wordOfShown() {
        sentence("Promise 11: 4: how often it was shown so far");
        FlippedBlinds x = withWords("aaaaa", "i");
        due("at first", x.wordOf(1, 4), 0);
        x.show(1, 0);
        x.show(1, 1);
        due("on both blinds", x.wordOf(1, 4), 2);
        x.show(0, 1);
        due("a refused one does not count", x.wordOf(0, 4), 0);
        typeAll(x, "s1,0;s1,1;");
        x.fault(0);
        due("nor does one that is asked about", x.wordOf(1, 4), 2);
        x.play();
        due("one of a text does", x.wordOf(1, 4), 4);
        due("words shown so far", x.count(4), 4);
        x.unword(1);
        x.word(letters("i"));
        due("a new word was not shown", x.wordOf(1, 4), 0);
        due("words shown so far stay", x.count(4), 4);
    }

    private void marginPlus1000() {
        sentence("Promise 12: Returns the margin plus 1000");
        FlippedBlinds x = withWords("h", "k");
        due("1", x.margin(0, 1, 0), 1001);
        x.stick(1, 2, 2, 0);
        due("-1", x.margin(0, 1, 0), 999);
        // m, all dark, is 12 from itself and 6 from j, which is the nearest one to that.
        x = withWords("m", "j");
        stickAll(x, 1, 0);
        due("-6", x.margin(0, 1, 0), 994);
        due("6", x.margin(1, 1, 0), 1006);
        x = withWords("mmmm", "j");
        stickAll(x, 1, 0);
        due("4 times 12 less 6", x.margin(0, 1, 1), 1000 - 48 + 6);
        due("the other way", x.margin(1, 1, 0), 1000 + 48 - 6);
        // The widest word on the wide blind against a single letter.
        x = withWords("mmmmmm", "j");
        stickAll(x, 0, 0);
        due("6 times 12 less 6", x.margin(0, 0, 0), 1000 - 72 + 6);
        due("the other way", x.margin(1, 0, 21), 1000 + 72 - 6);
    }

    private void marginOfNearestShift() {
        sentence("from the picture of each other word at each shift, the least of these");
        // l is 44447, al is an a, 25755, with l behind it: from l at s that is the 10 dots of a at s - 4.
        FlippedBlinds x = withWords("l", "al");
        due("al at 0 is the nearest one to l at 4", x.margin(0, 1, 4), 1010);
        due("al at 9 to l at 13", x.margin(0, 1, 13), 1010);
        due("al itself is 10 from l at its second letter", x.margin(1, 1, 9), 1010);
        due("and at 0", x.margin(1, 1, 0), 1010);
        // No al has its l at the shifts 0 to 3.
        due("l at 3 is farther from each al", x.margin(0, 1, 3) > 1010 ? 1 : 0, 1);
        due("l at 0, too", x.margin(0, 1, 0) > 1010 ? 1 : 0, 1);
    }

    private void marginOfAllOthers() {
        sentence("Promise 12: from the picture of each other word");
        // h and k are one dot apart, the others much farther, so k counts, whichever of the others it is.
        for (int place = 0; place < 10; place++) {
            int own = place == 5 ? 4 : 5;
            FlippedBlinds x = new FlippedBlinds();
            for (int word = 0; word < 10; word++) {
                x.word(word == place ? letters("k") : word == own ? letters("h") : letters("mmmma") + word);
            }
            due("k is word " + place, x.margin(own, 0, 10), 1001);
        }
        // l at 1 is 10 dots from l at 0; mmmmm at 0 has 60 dots, 6 of these are dots of l at 0.
        FlippedBlinds x = withWords("l", "mmmmm");
        due("the word itself at another shift does not count", x.margin(0, 0, 0), 1000 + 54 + 1);
    }

    private void wouldBeLikeShow() {
        sentence("Promise 13: Tells about showing a word on a blind");
        for (int setting = 2; setting <= 4; setting++) {
            FlippedBlinds x = withWords("b", "d");
            x.set(1, setting);
            x.stick(0, 2, 0, 1);
            for (int i = 0; i < 8; i++) {
                int word = i % 2;
                int[] would = new int[5];
                for (int what = 0; what < 5; what++) {
                    would[what] = x.would(word, 0, what);
                }
                if (would[0] < 0) {
                    due("show", x.show(word, 0), would[0]);
                    continue;
                }
                int flips = x.blindOf(0, 3);
                int stuck = x.blindOf(0, 1);
                due("the margin", x.margin(word, 0, would[0]), would[1] + 1000);
                due("the shift", x.show(word, 0), would[0]);
                due("flipped", x.blindOf(0, 3) - flips, would[2]);
                due("stuck", x.blindOf(0, 1) - stuck, would[3]);
                due("unlike", x.blindOf(0, 2), would[4]);
            }
        }
    }

    private void wouldFlipNoneOrAll() {
        sentence("Promise 13: 2: how many discs would be flipped");
        FlippedBlinds x = withWords("m");
        due("all its dots", x.would(0, 0, 2), 12);
        x.show(0, 0);
        due("none", x.would(0, 0, 2), 0);
        stickAll(x, 0, 1);
        due("none of a stuck blind", x.would(0, 0, 2), 0);
        stickAll(x, 0, 2);
        due("all others of a bright one", x.would(0, 0, 2), 108);
        stickAll(x, 1, 1);
        stickAll(x, 1, 2);
        due("all others of a bright narrow one", x.would(0, 1, 2), 68);
    }

    private void wouldStick() {
        sentence("Promise 13: 3: how many of these would be stuck by that");
        FlippedBlinds x = withWords("i");
        x.set(1, 3);
        due("with no wear", x.would(0, 0, 3), 0);
        x.show(0, 0);
        x.blank(0);
        due("with 1 less than setting 1", x.would(0, 0, 3), 9);
        x.set(1, 4);
        due("with 2 less", x.would(0, 0, 3), 0);
        x.set(1, 2);
        due("with as much, free", x.would(0, 0, 3), 9);
        x.repair(0, 1);
        due("without the repaired column", x.would(0, 0, 3), 4);
        x.stick(0, 0, 0, 0);
        due("without the stuck one", x.would(0, 0, 3), 3);
        x.stick(0, 2, 0, 1);
        x.stick(0, 2, 0, 2);
        due("without one that is bright and stays so", x.would(0, 0, 3), 2);
        due("of so many that would be flipped", x.would(0, 0, 2), 7);
        due("shown", x.show(0, 0), 0);
        due("stuck by wear", x.count(2), 2);
    }

    private void wouldStayUnlike() {
        sentence("Promise 13: 4: how many discs would be unlike what is wanted");
        for (int blind = 0; blind < 2; blind++) {
            int discs = COLUMNS[blind] * ROWS;
            FlippedBlinds x = withWords("m");
            due("none", x.would(0, blind, 4), 0);
            stickAll(x, blind, 1);
            due("all but its dots", x.would(0, blind, 4), discs - 12);
            stickAll(x, blind, 0);
            due("all its dots", x.would(0, blind, 4), 12);
            x.stick(blind, 0, 0, 2);
            due("but for a free one", x.would(0, blind, 4), 11);
            x.stick(blind, COLUMNS[blind] - 1, 4, 1);
            due("and a stuck bright one", x.would(0, blind, 4), 12);
            due("now none is unlike but that", x.blindOf(blind, 2), 1);
        }
        FlippedBlinds x = withWords("mmmmmm");
        stickAll(x, 0, 1);
        due("of six letters on both halves", x.would(0, 0, 4), 120 - 72);
        x.stick(0, 22, 4, 0);
        due("a stuck dark dot at the end", x.would(0, 0, 4), 120 - 72 + 1);
    }

    private void wouldAtSetting0() {
        sentence("Promise 13: NOT_POSSIBLE if it can be shown at no shift");
        for (int what = 0; what <= 4; what++) {
            FlippedBlinds x = withWords("a", "h", "aaaaa");
            x.set(0, 3);
            due("3 is enough", x.would(0, 0, what) >= 0 ? 1 : 0, 1);
            x.set(0, 4);
            due("4 is too much", x.would(0, 0, what), IMPOSSIBLE);
            due("too wide", x.would(2, 1, what), IMPOSSIBLE);
        }
    }

    private void closestOfFewerThanTwo() {
        sentence("Promise 14: NOT_FOUND if fewer than two words can stand on it");
        FlippedBlinds x = new FlippedBlinds();
        for (int what = 0; what <= 2; what++) {
            due("no word", x.closest(0, what), NOTHING);
        }
        x.word(letters("aaaaa"));
        for (int what = 0; what <= 2; what++) {
            due("one word", x.closest(0, what), NOTHING);
        }
        x.word(letters("haaaa"));
        int[] due = {0, 1, 3};
        for (int what = 0; what <= 2; what++) {
            due("two words", x.closest(0, what), due[what]);
            due("none that can stand", x.closest(1, what), NOTHING);
        }
        x.word(letters("aaaa"));
        due("one that can", x.closest(1, 0), NOTHING);
        x.word(letters("haaa"));
        int[] dueThere = {2, 3, 3};
        for (int what = 0; what <= 2; what++) {
            due("two that can", x.closest(1, what), dueThere[what]);
        }
        x.unword(2);
        due("one that can", x.closest(1, 2), NOTHING);
    }

    private void closestAtUnlikeShifts() {
        sentence("Promise 14: how far the picture of one at some shift is from that of the other one at some shift");
        FlippedBlinds x = withWords("l", "aaaal");
        due("l at 16 is 40 dots from the other one at 0", x.closest(0, 2), 40);
        x = withWords("laaa", "l");
        due("l at its first letter", x.closest(1, 2), 30);
        x = withWords("aaal", "l");
        due("l at its last letter, the last column of blind 1", x.closest(1, 2), 30);
    }

    private void closestAtTheEnds() {
        sentence("Promise 14: of one at some shift: the lowest and the greatest shift, too");
        // The left column of l, 44447, is like the middle one of i, 72227: 6 of its 7 dots are, if it is one
        // column behind i. So it stands at its last shift only if all else is at the shift 0. Where l is on
        // c, 34443, 5 dots are alike.
        due("l is the higher one", withWords("ccccci", "l").closest(0, 2), 5 * 7 + 9 + 7 - 2 * 6);
        due("l is the lower one", withWords("l", "ccccci").closest(0, 2), 5 * 7 + 9 + 7 - 2 * 6);
        due("on the narrow blind", withWords("ccci", "l").closest(1, 2), 3 * 7 + 9 + 7 - 2 * 6);
        due("and the other way", withWords("l", "ccci").closest(1, 2), 3 * 7 + 9 + 7 - 2 * 6);
        // The right column of j, 11152, is like the middle one of i if j is one column ahead of i: 5 of its
        // 6 dots are. So it stands at the shift 0 only if all else is at its last one.
        due("j is the higher one", withWords("illlll", "j").closest(0, 2), 9 + 5 * 7 + 6 - 2 * 5);
        due("j is the lower one", withWords("j", "illlll").closest(0, 2), 9 + 5 * 7 + 6 - 2 * 5);
    }

    private void closestOnUnlikeBlinds() {
        sentence("Promise 14: the two words that are most alike on a blind");
        // If they stand four columns apart, l on l, only two j of 6 dots are unlike; the narrow blind has no
        // such room. At the same shift j, 11152, and l, 44447, are 9 dots apart, twice.
        FlippedBlinds x = withWords("jlll", "lllj");
        due("four columns apart", x.closest(0, 2), 2 * 6);
        due("at the same shift", x.closest(1, 2), 2 * 9);
    }

    private void closestOfSeveral() {
        sentence("Promise 14: of several the lowest lower word, of these the lowest higher one");
        // b is 65656, d 65556, n 65555, p 65644: b and d, b and p, d and n are 2 apart.
        FlippedBlinds x = withWords("b", "mmm", "d", "p", "n");
        due("lower", x.closest(0, 0), 0);
        due("the lowest higher one", x.closest(0, 1), 2);
        due("how far", x.closest(0, 2), 2);
        x.unword(2);
        due("lower", x.closest(0, 0), 0);
        due("higher", x.closest(0, 1), 2);
        x = withWords("mmm", "n", "b", "d", "p");
        due("the lowest lower one", x.closest(0, 0), 1);
        due("though its higher one is not the lowest", x.closest(0, 1), 3);
        x = new FlippedBlinds();
        for (int word = 0; word < 8; word++) {
            x.word(letters("mmmma") + word);
        }
        x.word(letters("h"));
        x.word(letters("k"));
        due("the last two of ten", x.closest(0, 0) * 100 + x.closest(0, 1), 809);
        due("how far", x.closest(0, 2), 1);
    }

    private void closestWithStuckDiscs() {
        sentence("Promise 14: the picture of one, not what would be seen of it");
        FlippedBlinds x = withWords("h", "l");
        int far = x.closest(1, 2);
        stickAll(x, 1, 0);
        due("all stuck dark", x.closest(1, 2), far);
        stickAll(x, 1, 1);
        due("all stuck bright", x.closest(1, 2), far);
    }

    /**
     * Row 0 tells a, which is 2, from h, which is 5, by three dots: at shift 0 from the column first on,
     * at shift 1 from the next one on; these words stand at no third shift.
     */
    private static FlippedBlinds withTwoShifts(int blind, boolean lastLetter) {
        String others = blind == 0 ? "aaaaa" : "aaa";
        return withWords("a" + others, lastLetter ? others + "h" : "h" + others);
    }

    private void bestRepairAtEachEnd() {
        sentence("Promise 15: 0: the column; 1: the margin then plus 1000");
        for (int blind = 0; blind < 2; blind++) {
            // Shift 0 lacks one dot, in column 0; shift 1 lacks two, in the columns 2 and 3.
            FlippedBlinds x = withTwoShifts(blind, false);
            x.stick(blind, 0, 0, 1);
            x.stick(blind, 2, 0, 0);
            x.stick(blind, 3, 0, 1);
            due("margin at 0", x.margin(0, blind, 0), 1001);
            due("margin at 1", x.margin(0, blind, 1), 999);
            due("the first column", x.bestRepair(0, blind, 0), 0);
            due("the margin then", x.bestRepair(0, blind, 1), 1003);
            // Shift 1 lacks one dot, in the last column; shift 0 lacks two, at its left and its middle.
            x = withTwoShifts(blind, true);
            int last = COLUMNS[blind] - 1;
            x.stick(blind, last, 0, 1);
            x.stick(blind, last - 3, 0, 1);
            x.stick(blind, last - 2, 0, 0);
            due("margin at 0", x.margin(0, blind, 0), 999);
            due("margin at 1", x.margin(0, blind, 1), 1001);
            due("the last column", x.bestRepair(0, blind, 0), last);
            due("the margin then", x.bestRepair(0, blind, 1), 1003);
            due("repair it", x.repair(blind, last), 1);
            due("the margin it has", x.margin(0, blind, 1), 1003);
        }
    }

    /**
     * At the letter that tells the two words a dot is stuck wrong in one column, for one of the two shifts,
     * and two dots are for the other shift, so only the repair of that column makes the greatest margin 3.
     */
    private static FlippedBlinds withOneWrongColumn(int blind, int column) {
        int number = blind == 0 ? 6 : 4;
        int first = column / 4 * 4;
        StringBuilder other = new StringBuilder("a".repeat(number));
        other.setCharAt(column / 4, 'h');
        FlippedBlinds x = withWords("a".repeat(number), other.toString());
        int[][] wrong = {
            {first, 1, first + 2, 0, first + 3, 1}, {first + 1, 0, first + 2, 0, first + 3, 1},
            {first + 2, 1, first + 1, 1, first + 3, 1}, {first + 3, 1, first, 1, first + 1, 0}
        };
        int[] sticks = wrong[column % 4];
        for (int i = 0; i < 6; i += 2) {
            x.stick(blind, sticks[i], 0, sticks[i + 1]);
        }
        return x;
    }

    private void bestRepairOfEachColumn() {
        sentence("Promise 15: the column whose repair would make the greatest margin of a word on a blind greatest");
        for (int blind = 0; blind < 2; blind++) {
            for (int column = 0; column < COLUMNS[blind]; column++) {
                FlippedBlinds x = withOneWrongColumn(blind, column);
                int shift = column % 4 == 3 ? 1 : 0;
                due("the column of " + column, x.bestRepair(0, blind, 0), column);
                due("the margin then", x.bestRepair(0, blind, 1), 1003);
                due("the margin now", x.margin(0, blind, shift), 1001);
                due("at the other shift", x.margin(0, blind, 1 - shift), 999);
                due("it cannot be shown", x.would(0, blind, 1), IMPOSSIBLE);
                due("so the set is without it", x.blindOf(blind, 7) & 1, 0);
                x.set(0, 1);
                due("with 1 it can", x.blindOf(blind, 7) & 1, 1);
                due("with that margin", x.would(0, blind, 1), 1);
                x.set(0, 3);
                due("repair it", x.repair(blind, column), 1);
                due("so that it can", x.show(0, blind), shift);
            }
        }
    }

    private void bestRepairOfSeveral() {
        sentence("Promise 15: 0: the column, of several the lowest");
        for (int blind = 0; blind < 2; blind++) {
            // Each shift lacks two dots, so the repair of each of four columns makes 1 of -1.
            FlippedBlinds x = withTwoShifts(blind, true);
            int last = COLUMNS[blind] - 1;
            x.stick(blind, last - 3, 0, 1);
            x.stick(blind, last - 2, 0, 0);
            x.stick(blind, last - 1, 0, 0);
            x.stick(blind, last, 0, 1);
            due("margin at 0", x.margin(0, blind, 0), 999);
            due("margin at 1", x.margin(0, blind, 1), 999);
            due("the lowest of four", x.bestRepair(0, blind, 0), last - 3);
            due("the margin then", x.bestRepair(0, blind, 1), 1001);
        }
    }

    private void bestRepairOfNothing() {
        sentence("Promise 15: the column, of several the lowest: also if no repair makes the margin greater");
        for (int blind = 0; blind < 2; blind++) {
            FlippedBlinds x = withWords("a", "h");
            due("nothing is stuck", x.bestRepair(0, blind, 0), 0);
            due("the margin as it is", x.bestRepair(0, blind, 1), 1003);
            x.stick(blind, COLUMNS[blind] - 2, 0, 0);
            due("stuck where another shift is as good", x.bestRepair(0, blind, 0), 0);
            due("the margin as it is", x.bestRepair(0, blind, 1), 1003);
        }
        // One column is not enough for m, and its left column at the shift 0 is the farthest from j.
        FlippedBlinds x = withWords("mmmm", "j");
        stickAll(x, 1, 0);
        due("all dark", x.margin(0, 1, 0), 1000 - 48 + 6);
        due("the column", x.bestRepair(0, 1, 0), 0);
        due("a margin below 0", x.bestRepair(0, 1, 1), 1000 - 43 + 9);
        // With the columns 0 and 1 it has 7 of its 48 dots, and j at 0 has one of these.
        x.repair(1, 0);
        due("the next column", x.bestRepair(0, 1, 0), 1);
        due("a margin below 0", x.bestRepair(0, 1, 1), 1000 - 41 + 7 + 6 - 2);
    }

    private void bestRepairAlone() {
        sentence("Promise 15: the greatest margin of a word without others: 99");
        FlippedBlinds x = withWords("i", "aaaaa");
        stickAll(x, 1, 1);
        due("the column", x.bestRepair(0, 1, 0), 0);
        due("the margin then", x.bestRepair(0, 1, 1), 1099);
        due("the other word cannot stand there", x.bestRepair(1, 1, 0), IMPOSSIBLE);
        due("on the other blind it can", x.bestRepair(1, 0, 0), 0);
        x = withWords("aaaa");
        due("four letters can stand on 16 columns", x.bestRepair(0, 1, 1), 1099);
    }

    private void bestRepairOfAllShifts() {
        sentence("Promise 15: the greatest margin of a word on a blind, whatever setting 0 is");
        for (int blind = 0; blind < 2; blind++) {
            FlippedBlinds x = withWords("h", "k");
            stickRow(x, blind, 2, COLUMNS[blind], 2, 0);
            due("it cannot be shown", x.show(0, blind), IMPOSSIBLE);
            due("the first column of a right dot", x.bestRepair(0, blind, 0), 2);
            due("the margin then", x.bestRepair(0, blind, 1), 1001);
            due("for that it would have to be 1", x.repair(blind, 2), 1);
            due("so it still cannot", x.show(0, blind), IMPOSSIBLE);
            due("the lowest column again", x.bestRepair(0, blind, 0), 0);
            x.set(0, 1);
            due("with 1 it can", x.show(0, blind), 0);
        }
    }

    private void countAtFirst() {
        sentence("Promise 16: Returns a number");
        FlippedBlinds x = new FlippedBlinds();
        for (int what = -2; what <= 23; what++) {
            boolean there = what >= 0 && what <= 6;
            due("count " + what, x.count(what), what == 20 ? 2 : what == 21 ? 20 : there ? 0 : INVALID);
        }
    }

    private void countOfEach() {
        sentence("Promise 16: 0: words; 5: states in the history; 6: the length of the text");
        FlippedBlinds x = new FlippedBlinds();
        for (int i = 1; i <= 12; i++) {
            x.word(i);
            due("words", x.count(0), Math.min(i, 10));
            due("states", x.count(5), Math.min(i, 4));
        }
        for (int i = 1; i <= 62; i++) {
            x.type('b');
            due("length", x.count(6), Math.min(i, 60));
        }
        sentence("Promise 16: 1: flips; 2: stuck by wear; 3: columns repaired; 4: words shown, all so far");
        x = withWords("i");
        x.set(1, 2);
        x.show(0, 0);
        x.show(0, 1);
        x.blank(0);
        x.stick(1, 0, 0, 0);
        due("flips on both blinds", x.count(1), 27);
        due("stuck by wear, not by sticking", x.count(2), 9);
        x.blank(1);
        due("stuck by wear on both", x.count(2), 17);
        x.stick(0, 0, 0, 2);
        x.repair(0, 1);
        due("freed ones were stuck all the same", x.count(2), 17);
        x.repair(1, 15);
        due("repaired on both, also without stuck discs", x.count(3), 2);
        due("words shown on both", x.count(4), 2);
        due("flips", x.count(1), 35);
    }
}
