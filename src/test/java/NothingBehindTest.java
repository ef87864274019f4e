import java.util.function.Consumer;

/** What is undone, and a word that is taken away, leave nothing behind that can be read. */
public final class NothingBehindTest extends TestOfBlinds {
    /** As many as there can be, of all widths; the last one has the most shifts. */
    private static final String[] WORDS = {
        "a", "bcdefg", "jk", "nopmlk", "lmno", "fghij", "pc", "dbl", "ghi", "e"
    };

    private final Scene scene = new Scene(checks, "ten words and worn discs", NothingBehindTest::makeWorn);

    public static void main(String[] args) {
        NothingBehindTest test = new NothingBehindTest();
        test.undoneWords();
        test.undoneWants();
        test.undoneDiscs();
        test.undoneSettings();
        test.undonePlay();
        test.undoneAtFirst();
        test.wordsTaken();
        test.checks.end();
    }

    /** Ends with one state in the history, so that there is room for three changes that drop none. */
    private static void makeWorn(FlippedBlinds x) {
        for (String word : WORDS) {
            x.word(letters(word));
        }
        x.set(0, 1);
        x.set(1, 4);
        for (int blind = 0; blind < 2; blind++) {
            flipCorners(x, blind);
            x.show(0, blind);
            x.show(4, blind);
            x.show(8, blind);
            flipCorners(x, blind);
            x.show(2, blind);
        }
        x.show(3, 0);
        x.stick(0, 20, 1, 1);
        x.stick(1, 5, 3, 0);
        for (int value = 2; value <= 4; value++) {
            x.set(0, value);
        }
        for (int i = 0; i < 3; i++) {
            x.undo();
        }
    }

    /** Makes the discs of the corners bright by hand, and flips them, which no word does at the right end. */
    private static void flipCorners(FlippedBlinds x, int blind) {
        for (int column = 0; column < COLUMNS[blind]; column += COLUMNS[blind] - 1) {
            for (int row = 0; row < ROWS; row += ROWS - 1) {
                x.stick(blind, column, row, 1);
                x.stick(blind, column, row, 2);
            }
        }
        x.blank(blind);
    }

    /** So many changes, each of them undone, leave all as it was. */
    private void undone(String calls, int number, Consumer<FlippedBlinds> changes) {
        scene.unchanged(calls + ", undone", x -> {
            changes.accept(x);
            checks.due(calls + ": states", x.count(5), 1 + number);
            for (int i = 1; i < number; i++) {
                x.undo();
            }
            return x.undo();
        }, 1);
    }

    private void undoneWords() {
        sentence("Promise 17: each change records everything before it: words");
        for (int word = 0; word < WORDS.length; word++) {
            int taken = word;
            undone("unword(" + taken + ")", 1, x -> x.unword(taken));
            undone("unword(" + taken + "), word", 2, x -> {
                x.unword(taken);
                x.word(letters("cg"));
            });
        }
        undone("unword, word, show", 3, x -> {
            x.unword(0);
            x.word(letters("hhhhhh"));
            x.show(9, 0);
        });
        undone("unword, unword, word", 3, x -> {
            x.unword(9);
            x.unword(1);
            x.word(letters("o"));
        });
    }

    private void undoneWants() {
        sentence("Promise 17: each change records everything before it: discs, what is wanted, numbers so far");
        for (int blind = 0; blind < 2; blind++) {
            int there = blind;
            undone("blank(" + blind + ")", 1, x -> x.blank(there));
            undone("blank(" + blind + "), show", 2, x -> {
                x.blank(there);
                x.show(9, there);
            });
            for (int word : new int[] {0, 2, 4, 6, 7, 8, 9}) {
                undone("show(" + word + ", " + blind + ")", 1, x -> x.show(word, there));
            }
        }
        undone("show(3, 0), show(1, 0), blank(0)", 3, x -> {
            x.show(3, 0);
            x.show(1, 0);
            x.blank(0);
        });
    }

    private void undoneDiscs() {
        sentence("Promise 17: each change records everything before it: a disc, a column");
        for (int blind = 0; blind < 2; blind++) {
            int there = blind;
            for (int column = 0; column < COLUMNS[blind]; column++) {
                int repaired = column;
                undone("repair(" + blind + ", " + column + ")", 1, x -> x.repair(there, repaired));
            }
            for (int state = 0; state <= 2; state++) {
                int wanted = state;
                int last = COLUMNS[blind] - 1;
                undone("stick(" + blind + ", 0, 0, " + state + ")", 1, x -> x.stick(there, 0, 0, wanted));
                undone("stick(" + blind + ", " + last + ", 4, " + state + ")", 1,
                    x -> x.stick(there, last, 4, wanted));
            }
        }
        undone("stick(0, 20, 1, 2)", 1, x -> x.stick(0, 20, 1, 2));
        undone("stick(1, 5, 3, 1)", 1, x -> x.stick(1, 5, 3, 1));
    }

    private void undoneSettings() {
        sentence("Promise 17: each change records everything before it: the settings");
        undone("set(0, 9)", 1, x -> x.set(0, 9));
        undone("set(1, 2)", 1, x -> x.set(1, 2));
        undone("set(1, 2), blank(0), blank(1)", 3, x -> {
            x.set(1, 2);
            x.blank(0);
            x.blank(1);
        });
    }

    private void undonePlay() {
        sentence("Promises 17 and 21: the orders of a text are one change");
        Scene typed = new Scene(checks, "ten words and a text", x -> {
            makeWorn(x);
            typeAll(x, "b0;s9,1;s1,0;k0,23,4,0;k1,0,0,1;r0,22;r1,15;b1;");
        });
        typed.unchanged("play, undone", x -> {
            checks.due("orders", x.play(), 8);
            return x.undo();
        }, 1);
        typed.unchanged("play, repair, blank, undone", x -> {
            x.play();
            x.repair(1, 0);
            x.blank(0);
            x.undo();
            x.undo();
            return x.undo();
        }, 1);
    }

    /** There is room for one change more, so no state was ever restored before it is undone. */
    private void undoneAtFirst() {
        sentence("Promise 17: each change records everything before it: what is wanted, though it is not seen");
        for (int blind = 0; blind < 2; blind++) {
            int there = blind;
            Scene first = new Scene(checks, "a stuck disc of blind " + blind, x -> {
                x.word(letters("a"));
                x.show(0, there);
                x.stick(there, 1, 0, 0);
            });
            first.unchanged("blank, undone", x -> undo(x, x.blank(there)), 3);
            first.unchanged("show, undone", x -> undo(x, x.show(0, there)), 3);
            first.unchanged("repair, undone", x -> undo(x, x.repair(there, 1)), 3);
            first.unchanged("stick, undone", x -> undo(x, x.stick(there, 1, 0, 2)), 3);
            first.unchanged("word, undone", x -> undo(x, x.word(letters("cg"))), 3);
            first.unchanged("unword, undone", x -> undo(x, x.unword(0)), 3);
            first.unchanged("set, undone", x -> undo(x, x.set(0, 9)), 3);
            first.unchanged("play, undone", x -> undo(x, x.play()), 3);
        }
    }

    /** Undoes the change that was answered so. */
    private int undo(FlippedBlinds x, int answer) {
        checks.holds("it is a change", answer >= 0);
        return x.undo();
    }

    private static void addAll(FlippedBlinds x, int left) {
        for (int word = 0; word < WORDS.length; word++) {
            if (word != left) {
                x.word(letters(WORDS[word]));
            }
        }
    }

    private void wordsTaken() {
        sentence("if one is taken away, those behind it have numbers that are less by 1");
        for (int word = 0; word < WORDS.length; word++) {
            int taken = word;
            Scene without = new Scene(checks, "without word " + word, x -> {
                addAll(x, taken);
                x.show(8, 0);
            });
            without.ledToBy("unword(" + word + ")", x -> {
                addAll(x, WORDS.length);
                x.unword(taken);
                x.show(8, 0);
            });
        }
        Scene afterAll = new Scene(checks, "all other words", x -> addAll(x, 0));
        afterAll.ledToBy("unword of all, words", x -> {
            addAll(x, WORDS.length);
            for (int i = 0; i < WORDS.length; i++) {
                x.unword(WORDS.length - 1 - i);
            }
            addAll(x, 0);
        });
    }
}
