/** The sentences of the promises 1 to 8 and 17 that name a boundary, each at it and one beyond it. */
public final class EdgesOfChangesTest extends TestOfBlinds {
    public static void main(String[] args) {
        EdgesOfChangesTest test = new EdgesOfChangesTest();
        test.newObject();
        test.wordWithoutLetters();
        test.wordOfTooMany();
        test.wordAboveSixteen();
        test.wordWithAGap();
        test.wordNumbers();
        test.wordThatIsThere();
        test.wordBeyondTen();
        test.unwordToNone();
        test.unwordOfAShownOne();
        test.wordBehindATakenOne();
        test.showAtEachEnd();
        test.showNowhere();
        test.showCounts();
        test.blankWithNothingBright();
        test.blankWithAllBright();
        test.stickAllDiscs();
        test.stickStates();
        test.stickKeepsWear();
        test.repairOfNoneToFive();
        test.repairOfOneColumn();
        test.repairForgetsWear();
        test.setReturnsWhatItWas();
        test.setActsFromThenOn();
        test.undoOfEmptyHistory();
        test.undoOfEachChange();
        test.undoKeepsText();
        test.undoOfNumbers();
        test.checks.end();
    }

    private void newObject() {
        sentence("Promise 1: Creates dark blinds, without words");
        FlippedBlinds x = new FlippedBlinds();
        for (int blind = 0; blind < 2; blind++) {
            for (int what = 0; what <= 7; what++) {
                due("blindOf " + what, x.blindOf(blind, what), what >= 4 && what <= 6 ? NOTHING : 0);
            }
            due("blank", x.blank(blind), 0);
        }
        due("words", x.count(0), 0);
        due("no word 0", x.unword(0), INVALID);
        due("text", x.clearText(), 0);
        x = new FlippedBlinds();
        for (int what = 0; what <= 6; what++) {
            due("count " + what, x.count(what), 0);
        }
        due("nothing to undo", x.undo(), IMPOSSIBLE);
    }

    private void wordWithoutLetters() {
        sentence("Promise 2: INVALID_ARGUMENT if there is no letter");
        FlippedBlinds x = new FlippedBlinds();
        due("word(0)", x.word(0), INVALID);
        for (int bit = 5; bit < 32; bit++) {
            due("word with bit " + bit + " alone", x.word(1 << bit), INVALID);
        }
        due("words", x.count(0), 0);
        due("states", x.count(5), 0);
        for (int bit = 0; bit < 5; bit++) {
            due("word with bit " + bit + " alone", x.word(1 << bit), bit);
        }
    }

    private void wordOfTooMany() {
        sentence("Promise 2: there are more than 6");
        FlippedBlinds x = new FlippedBlinds();
        due("six letters, the greatest ones", x.word(letters("pppppp")), 0);
        due("six letters, the least ones", x.word(letters("aaaaaa")), 1);
        for (int bits = 1; bits < 4; bits++) {
            due("six and a seventh", x.word(letters("aaaaaa") | bits << 30), INVALID);
            due("six and a seventh", x.word(letters("pppppp") | bits << 30), INVALID);
        }
        due("words", x.count(0), 2);
    }

    private void wordAboveSixteen() {
        sentence("Promise 2: 5 bits are above 16");
        for (int number = 1; number <= 6; number++) {
            int greatest = letters("pppppp") >>> 5 * (6 - number);
            FlippedBlinds x = new FlippedBlinds();
            due(number + " letters of 16", x.word(greatest), 0);
            for (int place = 0; place < number; place++) {
                for (int letter = 17; letter <= 31; letter++) {
                    int wrong = greatest & ~(31 << 5 * place) | letter << 5 * place;
                    due(number + " letters, " + letter + " at " + place, x.word(wrong), INVALID);
                }
            }
            due("words", x.count(0), 1);
        }
    }

    private void wordWithAGap() {
        sentence("Promise 2: 5 bits that are 0 mean that there are no more letters; a bit above them is not 0");
        for (int number = 0; number < 6; number++) {
            int letters = letters("aaaaaa") & (1 << 5 * number) - 1;
            FlippedBlinds x = new FlippedBlinds();
            for (int bit = 5 * (number + 1); bit < 32; bit++) {
                due(number + " letters and bit " + bit, x.word(letters | 1 << bit), INVALID);
            }
            due(number + " letters and all bits above", x.word(letters | -1 << 5 * (number + 1)), INVALID);
            due("words", x.count(0), 0);
            due(number + " letters", x.word(letters), number == 0 ? INVALID : 0);
        }
    }

    private void wordNumbers() {
        sentence("Promise 2: Returns its number; the lowest 5 bits are the last one");
        FlippedBlinds x = new FlippedBlinds();
        due("the first one", x.word(12 * 32 + 9), 0);
        due("the same letters the other way round", x.word(9 * 32 + 12), 1);
        due("its letters, as they were told", x.wordOf(1, 0), 9 * 32 + 12);
        x = new FlippedBlinds();
        x.word(12 * 32 + 9);
        due("alone it is shown at the left end", x.show(0, 0), 0);
        // 12 is 44447, 9 is 72227.
        due("12 is the left one", x.disc(0, 1, 0, 0), 0);
        due("9 is the right one", x.disc(0, 5, 0, 0), 1);
    }

    private void wordThatIsThere() {
        sentence("Promise 2: NOT_POSSIBLE if there is the same word");
        FlippedBlinds x = new FlippedBlinds();
        for (int word = 0; word < 10; word++) {
            due("word " + word, x.word(word + 7), word);
            for (int same = 0; same <= word; same++) {
                due("word " + same + " again", x.word(same + 7), IMPOSSIBLE);
            }
        }
        due("words", x.count(0), 10);
        due("one is gone", x.unword(4), 9);
        due("it is the last one then", x.word(11), 9);
    }

    private void wordBeyondTen() {
        sentence("Promise 2: LIMIT_REACHED if there are 10");
        FlippedBlinds x = new FlippedBlinds();
        for (int word = 0; word < 9; word++) {
            x.word(word + 1);
        }
        due("the tenth", x.word(letters("pppppp")), 9);
        due("an eleventh", x.word(letters("oooooo")), LIMIT);
        due("another eleventh", x.word(16), LIMIT);
        due("one is taken away", x.unword(0), 9);
        due("the tenth", x.word(16), 9);
        due("an eleventh", x.word(1), LIMIT);
        due("undo", x.undo(), 3);
        due("the tenth", x.word(1), 9);
    }

    private void unwordToNone() {
        sentence("Promise 3: Returns how many words there are then");
        FlippedBlinds x = new FlippedBlinds();
        for (int letter = 1; letter <= 10; letter++) {
            x.word(letter);
        }
        for (int left = 9; left >= 0; left--) {
            due("the last one of " + (left + 1), x.unword(left), left);
            due("that is there no more", x.unword(left), INVALID);
            due("words", x.count(0), left);
        }
        for (int letter = 1; letter <= 10; letter++) {
            due("word again", x.word(letter), letter - 1);
        }
        for (int left = 9; left >= 0; left--) {
            due("the first one of " + (left + 1), x.unword(0), left);
        }
        due("none is left", x.unword(0), INVALID);
        due("none is read", x.blindOf(0, 4), NOTHING);
        due("none is closest", x.closest(0, 0), NOTHING);
        due("none can be shown", x.blindOf(0, 7), 0);
    }

    private void unwordOfAShownOne() {
        sentence("Promise 3: blinds on which it is shown stay as they are");
        FlippedBlinds x = withWords("e", "l");
        x.show(0, 0);
        x.show(0, 1);
        due("unword", x.unword(0), 1);
        for (int blind = 0; blind < 2; blind++) {
            due("bright", x.blindOf(blind, 0), 10);
            due("as it is wanted", x.blindOf(blind, 2), 0);
            due("flips", x.blindOf(blind, 3), 10);
            due("wanted there", x.disc(blind, 2, 4, 3), 1);
            due("wear there", x.disc(blind, 2, 4, 2), 1);
            // e is 74647, l is 44447: 3 and 2 in the rows 0 and 2 are 3 dots.
            due("read as the other one", x.blindOf(blind, 4), 0);
            due("not far", x.blindOf(blind, 6), 3);
        }
        due("shown so far", x.count(4), 2);
    }

    private void wordBehindATakenOne() {
        sentence("Promises 2 and 3: a word that comes where another one was taken away has its own dots alone");
        for (int taken = 0; taken < 2; taken++) {
            FlippedBlinds x = withWords("mmm", "mmmmmm");
            x.unword(taken);
            due("word again", x.word(letters("j")), 1);
            due("its dots", x.wordOf(1, 3), 6);
            due("its width", x.wordOf(1, 2), 3);
            due("what is read of dark blinds", x.blindOf(0, 4), 1);
            due("its dots as read", x.blindOf(0, 6), 6);
            x.unword(0);
            due("shown", x.show(0, 0), 0);
            due("bright", x.blindOf(0, 0), 6);
            due("undo", x.undo(), 3);
            due("another word", x.word(letters("i")), 1);
            due("its dots", x.wordOf(1, 3), 9);
        }
    }

    private void showAtEachEnd() {
        sentence("Promise 4: Returns the shift");
        for (int blind = 0; blind < 2; blind++) {
            FlippedBlinds x = withWords("h", "k");
            x.set(0, 1);
            due("the least shift", x.show(0, blind), 0);
            stickRow(x, blind, 2, COLUMNS[blind] - 1, 2, 0);
            due("the greatest shift", x.show(0, blind), COLUMNS[blind] - 3);
            due("its last disc", x.disc(blind, COLUMNS[blind] - 1, 4, 0), 1);
            x.stick(blind, COLUMNS[blind] - 1, 2, 0);
            due("none is left", x.show(0, blind), IMPOSSIBLE);
            due("k is shown all the same", x.show(1, blind), 0);
        }
        FlippedBlinds x = withWords("abcdef", "abcd");
        due("six letters", x.show(0, 0), 0);
        due("four letters on the narrow blind", x.show(1, 1), 0);
        due("margins of that: only this one stands there", x.would(1, 1, 1), 99);
    }

    private void showNowhere() {
        sentence("Promise 4: NOT_POSSIBLE if it can be shown at no shift");
        FlippedBlinds x = withWords("aaaa", "aaaaa", "aaaaaa");
        due("four letters stand on 16 columns", x.show(0, 1), 0);
        due("five do not", x.show(1, 1), IMPOSSIBLE);
        due("six do not", x.show(2, 1), IMPOSSIBLE);
        due("words that can be shown there", x.blindOf(1, 7), 1);
        // Of two letters more the picture is far from the others at each shift.
        due("six stand on 24", x.show(2, 0), 0);
        due("shown so far", x.count(4), 2);
        due("of the second word", x.wordOf(1, 4), 0);
    }

    private void showCounts() {
        sentence("Promise 4: Shows a word on a blind");
        FlippedBlinds x = withWords("i");
        for (int i = 1; i <= 5; i++) {
            due("show", x.show(0, 0), 0);
            due("flips: only at first", x.blindOf(0, 3), 9);
            due("wear: only at first", x.disc(0, 0, 0, 2), 1);
            due("shown", x.wordOf(0, 4), i);
            due("words shown", x.count(4), i);
        }
        due("the other blind is dark", x.blindOf(1, 0), 0);
        due("and without flips", x.blindOf(1, 3), 0);
    }

    private void blankWithNothingBright() {
        sentence("Promise 5: Returns how many discs are bright then: none");
        FlippedBlinds x = withWords("p");
        due("blank a dark one", x.blank(0), 0);
        due("it is a change", x.count(5), 2);
        due("without flips", x.count(1), 0);
        x.show(0, 1);
        due("blank", x.blank(1), 0);
        due("flips", x.count(1), 16);
        due("nothing is unlike", x.blindOf(1, 2), 0);
        due("nothing is wanted", x.disc(1, 0, 0, 3), 0);
    }

    private void blankWithAllBright() {
        sentence("Promise 5: Returns how many discs are bright then: all that are stuck bright");
        for (int blind = 0; blind < 2; blind++) {
            int discs = COLUMNS[blind] * ROWS;
            FlippedBlinds x = new FlippedBlinds();
            stickAll(x, blind, 1);
            due("all are stuck bright", x.blank(blind), discs);
            due("all are unlike what is wanted", x.blindOf(blind, 2), discs);
            due("no flips", x.blindOf(blind, 3), 0);
            x.stick(blind, COLUMNS[blind] - 1, 4, 2);
            due("but for the last one", x.blank(blind), discs - 1);
            x.stick(blind, 0, 0, 2);
            due("and the first one", x.blank(blind), discs - 2);
            due("two flips", x.blindOf(blind, 3), 2);
        }
    }

    private void stickAllDiscs() {
        sentence("Promise 6: Returns how many discs of the blind are stuck then");
        for (int blind = 0; blind < 2; blind++) {
            FlippedBlinds x = new FlippedBlinds();
            int stuck = 0;
            for (int row = 0; row < ROWS; row++) {
                for (int column = 0; column < COLUMNS[blind]; column++) {
                    stuck++;
                    due("stuck at " + column + ", " + row, x.stick(blind, column, row, stuck % 2), stuck);
                }
            }
            due("all", x.blindOf(blind, 1), COLUMNS[blind] * ROWS);
            due("none on the other one", x.blindOf(1 - blind, 1), 0);
            due("half of them are bright", x.blindOf(blind, 0), stuck / 2);
            for (int row = 0; row < ROWS; row++) {
                for (int column = 0; column < COLUMNS[blind]; column++) {
                    stuck--;
                    due("freed at " + column + ", " + row, x.stick(blind, column, row, 2), stuck);
                }
            }
            due("as they are", x.blindOf(blind, 0), COLUMNS[blind] * ROWS / 2);
        }
    }

    private void stickStates() {
        sentence("Promise 6: 0: it is stuck dark; 1: it is stuck bright; 2: it is free, as it is");
        // Each state of a disc, and then each state it is brought to.
        for (int before = 0; before < 4; before++) {
            for (int state = 0; state <= 2; state++) {
                FlippedBlinds x = new FlippedBlinds();
                x.stick(1, 15, 4, before % 2);
                if (before >= 2) {
                    x.stick(1, 15, 4, 2);
                }
                due("stick " + state, x.stick(1, 15, 4, state), state == 2 ? 0 : 1);
                due("bright", x.disc(1, 15, 4, 0), state == 2 ? before % 2 : state);
                due("stuck", x.disc(1, 15, 4, 1), state == 2 ? 0 : 1);
                due("wear", x.disc(1, 15, 4, 2), 0);
                due("wanted", x.disc(1, 15, 4, 3), 0);
                due("flips", x.count(1), 0);
                due("by wear", x.count(2), 0);
            }
        }
    }

    private void stickKeepsWear() {
        sentence("Promise 6: or frees it (its wear stays)");
        FlippedBlinds x = withWords("l");
        x.set(1, 3);
        x.show(0, 0);
        x.blank(0);
        due("stick it", x.stick(0, 0, 0, 1), 1);
        due("its wear", x.disc(0, 0, 0, 2), 2);
        due("free it", x.stick(0, 0, 0, 2), 0);
        due("its wear", x.disc(0, 0, 0, 2), 2);
        due("so the next flip sticks it, dark", x.blank(0), 0);
        due("stuck", x.disc(0, 0, 0, 1), 1);
        due("wear", x.disc(0, 0, 0, 2), 3);
        due("by wear", x.count(2), 1);
        due("free it with that wear", x.stick(0, 0, 0, 2), 0);
        due("it stays free without a flip", x.blank(0), 0);
        due("free", x.disc(0, 0, 0, 1), 0);
        due("show flips it", x.show(0, 0), 0);
        due("stuck again", x.disc(0, 0, 0, 1), 1);
        due("with 4", x.disc(0, 0, 0, 2), 4);
        due("by wear: that and six others", x.count(2), 8);
    }

    private void repairOfNoneToFive() {
        sentence("Promise 7: Returns how many of its discs were stuck");
        for (int blind = 0; blind < 2; blind++) {
            for (int column : new int[] {0, 11, 12, COLUMNS[blind] - 1}) {
                FlippedBlinds x = new FlippedBlinds();
                for (int stuck = 0; stuck <= ROWS; stuck++) {
                    for (int row = 0; row < stuck; row++) {
                        x.stick(blind, column, row, row % 2);
                    }
                    due("repair of " + stuck, x.repair(blind, column), stuck);
                    due("none is left", x.repair(blind, column), 0);
                }
                due("columns repaired", x.count(3), 12);
                due("as they are", x.blindOf(blind, 0), 2);
                due("no flips", x.count(1), 0);
            }
        }
    }

    private void repairOfOneColumn() {
        sentence("Promise 7: Repairs a column: its discs are free, as they are");
        for (int blind = 0; blind < 2; blind++) {
            FlippedBlinds x = new FlippedBlinds();
            stickAll(x, blind, 1);
            int stuck = COLUMNS[blind] * ROWS;
            for (int column = 0; column < COLUMNS[blind]; column++) {
                due("repair column " + column, x.repair(blind, column), 5);
                stuck -= 5;
                due("all others are stuck", x.blindOf(blind, 1), stuck);
                due("all are bright", x.blindOf(blind, 0), COLUMNS[blind] * ROWS);
            }
        }
    }

    private void repairForgetsWear() {
        sentence("Promise 7: and have no wear");
        FlippedBlinds x = withWords("i");
        x.set(1, 2);
        x.show(0, 1);
        due("repair it with 1", x.repair(1, 1), 0);
        for (int row = 0; row < ROWS; row++) {
            due("no wear", x.disc(1, 1, row, 2), 0);
        }
        due("wear beside it", x.disc(1, 0, 0, 2), 1);
        due("blank sticks those beside it", x.blank(1), 0);
        due("stuck", x.blindOf(1, 1), 4);
        due("not in the repaired column", x.disc(1, 1, 0, 1), 0);
        due("show sticks that", x.show(0, 1), 0);
        due("its five", x.blindOf(1, 1), 9);
        due("repair it with 2", x.repair(1, 1), 5);
        due("no wear", x.disc(1, 1, 4, 2), 0);
        due("by wear so far, still", x.count(2), 9);
        due("bright, still", x.disc(1, 1, 4, 0), 1);
        due("wanted, still", x.disc(1, 1, 4, 3), 1);
    }

    private void setReturnsWhatItWas() {
        sentence("Promise 8: Returns what it was");
        FlippedBlinds x = new FlippedBlinds();
        due("set(0, 1)", x.set(0, 1), 2);
        due("set(0, 0)", x.set(0, 0), INVALID);
        due("set(0, 9)", x.set(0, 9), 1);
        due("set(0, 10)", x.set(0, 10), INVALID);
        due("set(0, 9) again", x.set(0, 9), 9);
        due("set(1, 2)", x.set(1, 2), 20);
        due("set(1, 1)", x.set(1, 1), INVALID);
        due("set(1, 99)", x.set(1, 99), 2);
        due("set(1, 100)", x.set(1, 100), INVALID);
        due("set(1, 99) again", x.set(1, 99), 99);
        due("set(-1, 5)", x.set(-1, 5), INVALID);
        due("set(2, 5)", x.set(2, 5), INVALID);
        due("setting 0", x.count(20), 9);
        due("setting 1", x.count(21), 99);
    }

    private void setActsFromThenOn() {
        sentence("Promise 8: Sets a setting");
        FlippedBlinds x = withWords("a", "h");
        due("3 apart", x.blindOf(0, 7), 3);
        x.set(0, 4);
        due("4 are wanted", x.blindOf(0, 7), 0);
        x.set(0, 3);
        due("3 are wanted", x.blindOf(0, 7), 3);
        x.show(0, 0);
        x.set(1, 2);
        due("2 flips stick", x.would(1, 0, 3), 1);
        x.set(1, 3);
        due("3 flips stick", x.would(1, 0, 3), 0);
    }

    private void undoOfEmptyHistory() {
        sentence("Promise 17: NOT_POSSIBLE if it is empty");
        FlippedBlinds x = new FlippedBlinds();
        due("undo of a new object", x.undo(), IMPOSSIBLE);
        x.word(1);
        due("undo", x.undo(), 0);
        due("undo once more", x.undo(), IMPOSSIBLE);
        due("words", x.count(0), 0);
        x.word(0);
        x.show(0, 0);
        x.set(0, 0);
        x.type('b');
        x.fault(0);
        x.play();
        x.clearText();
        due("errors and questions leave it empty", x.undo(), IMPOSSIBLE);
    }

    private void undoOfEachChange() {
        sentence("Promise 17: Restores the latest state of the history, which is removed from it");
        FlippedBlinds x = new FlippedBlinds();
        x.word(letters("i"));
        x.show(0, 0);
        x.stick(0, 5, 4, 1);
        x.set(1, 40);
        due("undo set", x.undo(), 3);
        due("setting 1", x.count(21), 20);
        x.set(0, 9);
        due("undo set", x.undo(), 3);
        due("setting 0", x.count(20), 2);
        due("undo stick", x.undo(), 2);
        due("stuck", x.blindOf(0, 1), 0);
        due("bright", x.disc(0, 5, 4, 0), 0);
        due("undo show", x.undo(), 1);
        due("bright", x.blindOf(0, 0), 0);
        due("wear", x.disc(0, 0, 0, 2), 0);
        due("wanted", x.disc(0, 0, 0, 3), 0);
        due("undo word", x.undo(), 0);
        due("words", x.count(0), 0);
        x = withWords("i");
        x.show(0, 1);
        x.word(letters("c"));
        x.stick(1, 1, 1, 0);
        x.repair(1, 1);
        x.unword(0);
        x.blank(1);
        due("undo blank", x.undo(), 3);
        due("bright", x.blindOf(1, 0), 8);
        due("undo unword", x.undo(), 2);
        due("word 0", x.wordOf(0, 0), letters("i"));
        due("how often it was shown", x.wordOf(0, 4), 1);
        due("word 1", x.wordOf(1, 0), letters("c"));
        due("undo repair", x.undo(), 1);
        due("stuck", x.disc(1, 1, 1, 1), 1);
        due("wear", x.disc(1, 1, 0, 2), 1);
        due("undo stick", x.undo(), 0);
        due("bright", x.disc(1, 1, 1, 0), 1);
        due("free", x.disc(1, 1, 1, 1), 0);
    }

    private void undoKeepsText() {
        sentence("Promise 17: each change records everything before it but the text");
        FlippedBlinds x = new FlippedBlinds();
        x.set(0, 5);
        typeAll(x, "b0;");
        due("play", x.play(), 1);
        x.type('b');
        due("undo play", x.undo(), 1);
        due("the text stays", x.count(6), 4);
        due("undo set", x.undo(), 0);
        due("the text stays", x.count(6), 4);
        due("it is as it was typed", x.fault(0), 3);
        x.set(0, 5);
        x.clearText();
        due("undo", x.undo(), 0);
        due("the text stays empty", x.count(6), 0);
    }

    private void undoOfNumbers() {
        sentence("Promise 17: everything before it: the numbers so far, too");
        FlippedBlinds x = withWords("i");
        x.set(1, 2);
        x.show(0, 0);
        x.blank(0);
        due("stuck by wear", x.count(2), 9);
        due("flips", x.count(1), 18);
        due("undo blank", x.undo(), 3);
        due("stuck by wear", x.count(2), 0);
        due("flips", x.count(1), 9);
        due("repair", x.repair(0, 0), 0);
        due("repaired", x.count(3), 1);
        due("undo repair", x.undo(), 3);
        due("repaired", x.count(3), 0);
        due("undo show", x.undo(), 2);
        due("flips", x.count(1), 0);
        due("shown", x.count(4), 0);
        due("of the word", x.wordOf(0, 4), 0);
        due("flips of the blind", x.blindOf(0, 3), 0);
    }
}
