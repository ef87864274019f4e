/**
 * The least and the greatest value of each argument of each call, and one beyond each, which is refused
 * and leaves all unchanged.
 */
public final class ArgumentsTest extends TestOfBlinds {
    /** Words 0 and 1 are 3 columns wide, word 2 is 19, so it cannot stand on blind 1, word 3 is 15. */
    private final Scene scene = new Scene(checks, "a state with four words", ArgumentsTest::makeState);

    public static void main(String[] args) {
        ArgumentsTest test = new ArgumentsTest();
        test.ofWord();
        test.ofUnword();
        test.ofShow();
        test.ofBlank();
        test.ofStick();
        test.ofRepair();
        test.ofSet();
        test.ofDisc();
        test.ofBlindOf();
        test.ofWordOf();
        test.ofMargin();
        test.ofMarginOfOtherWords();
        test.ofWould();
        test.ofClosest();
        test.ofBestRepair();
        test.ofCount();
        test.ofType();
        test.ofFault();
        test.checks.end();
    }

    /** Wear, stuck discs and a full history of unlike states are there, and a text with a fault. */
    private static void makeState(FlippedBlinds x) {
        for (String word : new String[] {"b", "d", "aaaaa", "gjig"}) {
            x.word(letters(word));
        }
        x.set(1, 3);
        x.show(0, 0);
        x.show(1, 0);
        x.show(0, 0);
        x.show(3, 1);
        x.repair(1, 3);
        x.stick(1, 4, 2, 1);
        x.blank(1);
        x.stick(0, 20, 4, 1);
        typeAll(x, "s0,0;b1;r1,9");
    }

    private void ofWord() {
        sentence("word: 5 bits are above 16, there is no letter, there are more than 6");
        scene.range("word(letter)", 1, 16, FlippedBlinds::word);
        int last = letters("aaaaa");
        scene.range("word(the last of six letters)", 1, 16, (x, letter) -> x.word(last * 32 + letter));
        int behind = last << 5 | 1;
        for (int beyond : new int[] {17, 31}) {
            for (int place = 0; place < 6; place++) {
                int wrong = behind & ~(31 << 5 * place) | beyond << 5 * place;
                scene.unchanged("word of six, " + beyond + " at " + place, x -> x.word(wrong), INVALID);
            }
        }
        for (int bits = 1; bits < 4; bits++) {
            int more = letters("pppppp") | bits << 30;
            scene.unchanged("word of more than six", x -> x.word(more), INVALID);
        }
    }

    private void ofUnword() {
        sentence("unword: number of the word");
        scene.range("unword(word)", 0, 3, FlippedBlinds::unword);
    }

    private void ofShow() {
        sentence("show: INVALID_ARGUMENT if an argument is out of range");
        scene.range("show(word, 0)", 0, 3, (x, word) -> x.show(word, 0));
        scene.range("show(0, blind)", 0, 1, (x, blind) -> x.show(0, blind));
    }

    private void ofBlank() {
        sentence("blank: blind: 0 or 1");
        scene.range("blank(blind)", 0, 1, FlippedBlinds::blank);
    }

    private void ofStick() {
        sentence("stick: INVALID_ARGUMENT if an argument is out of range");
        scene.range("stick(blind, 0, 0, 0)", 0, 1, (x, blind) -> x.stick(blind, 0, 0, 0));
        scene.range("stick(0, column, 0, 0)", 0, 23, (x, column) -> x.stick(0, column, 0, 0));
        scene.range("stick(1, column, 0, 0)", 0, 15, (x, column) -> x.stick(1, column, 0, 0));
        scene.range("stick(0, 1, row, 0)", 0, 4, (x, row) -> x.stick(0, 1, row, 0));
        scene.range("stick(1, 1, row, 0)", 0, 4, (x, row) -> x.stick(1, 1, row, 0));
        scene.range("stick(0, 0, 0, state)", 0, 2, (x, state) -> x.stick(0, 0, 0, state));
    }

    private void ofRepair() {
        sentence("repair: INVALID_ARGUMENT if an argument is out of range");
        scene.range("repair(blind, 0)", 0, 1, (x, blind) -> x.repair(blind, 0));
        scene.range("repair(0, column)", 0, 23, (x, column) -> x.repair(0, column));
        scene.range("repair(1, column)", 0, 15, (x, column) -> x.repair(1, column));
    }

    private void ofSet() {
        sentence("The settings are: 0 (1 to 9; 2), 1 (2 to 99; 20)");
        scene.range("set(what, 5)", 0, 1, (x, what) -> x.set(what, 5));
        scene.range("set(0, value)", 1, 9, (x, value) -> x.set(0, value));
        scene.range("set(1, value)", 2, 99, (x, value) -> x.set(1, value));
    }

    private void ofDisc() {
        sentence("disc: INVALID_ARGUMENT if an argument is out of range");
        for (int what = 0; what <= 3; what++) {
            int asked = what;
            scene.range("disc(blind, 0, 0, " + what + ")", 0, 1, (x, blind) -> x.disc(blind, 0, 0, asked));
            scene.range("disc(0, column, 4, " + what + ")", 0, 23, (x, column) -> x.disc(0, column, 4, asked));
            scene.range("disc(1, column, 0, " + what + ")", 0, 15, (x, column) -> x.disc(1, column, 0, asked));
            scene.range("disc(0, 1, row, " + what + ")", 0, 4, (x, row) -> x.disc(0, 1, row, asked));
            scene.range("disc(1, 15, row, " + what + ")", 0, 4, (x, row) -> x.disc(1, 15, row, asked));
        }
        scene.range("disc(0, 0, 0, what)", 0, 3, (x, what) -> x.disc(0, 0, 0, what));
    }

    private void ofBlindOf() {
        sentence("blindOf: INVALID_ARGUMENT if an argument is out of range");
        for (int what = 0; what <= 8; what++) {
            int asked = what;
            scene.range("blindOf(blind, " + what + ")", 0, 1, (x, blind) -> x.blindOf(blind, asked));
        }
        scene.range("blindOf(0, what)", 0, 8, (x, what) -> x.blindOf(0, what));
        scene.range("blindOf(1, what)", 0, 8, (x, what) -> x.blindOf(1, what));
    }

    private void ofWordOf() {
        sentence("wordOf: INVALID_ARGUMENT if an argument is out of range");
        for (int what = 0; what <= 4; what++) {
            int asked = what;
            scene.range("wordOf(word, " + what + ")", 0, 3, (x, word) -> x.wordOf(word, asked));
        }
        scene.range("wordOf(0, what)", 0, 4, (x, what) -> x.wordOf(0, what));
    }

    private void ofMargin() {
        sentence("margin: INVALID_ARGUMENT if an argument is out of range");
        scene.range("margin(word, 0, 0)", 0, 3, (x, word) -> x.margin(word, 0, 0));
        scene.range("margin(0, blind, 0)", 0, 1, (x, blind) -> x.margin(0, blind, 0));
        scene.range("margin(0, 0, shift)", 0, 21, (x, shift) -> x.margin(0, 0, shift));
        scene.range("margin(0, 1, shift)", 0, 13, (x, shift) -> x.margin(0, 1, shift));
    }

    private void ofMarginOfOtherWords() {
        sentence("INVALID_ARGUMENT; so is a shift at which the word cannot stand on the blind");
        scene.range("margin(2, 0, shift)", 0, 5, (x, shift) -> x.margin(2, 0, shift));
        scene.range("margin(3, 0, shift)", 0, 9, (x, shift) -> x.margin(3, 0, shift));
        scene.range("margin(3, 1, shift)", 0, 1, (x, shift) -> x.margin(3, 1, shift));
        for (int shift = -4; shift <= 4; shift++) {
            int asked = shift;
            scene.unchanged("margin(2, 1, " + shift + ")", x -> x.margin(2, 1, asked), INVALID);
        }
    }

    private void ofWould() {
        sentence("would: INVALID_ARGUMENT if an argument is out of range");
        for (int what = 0; what <= 4; what++) {
            int asked = what;
            scene.range("would(word, 0, " + what + ")", 0, 3, (x, word) -> x.would(word, 0, asked));
            scene.range("would(0, blind, " + what + ")", 0, 1, (x, blind) -> x.would(0, blind, asked));
        }
        scene.range("would(0, 0, what)", 0, 4, (x, what) -> x.would(0, 0, what));
        scene.range("would(3, 1, what)", 0, 4, (x, what) -> x.would(3, 1, what));
    }

    private void ofClosest() {
        sentence("closest: INVALID_ARGUMENT if an argument is out of range");
        for (int what = 0; what <= 2; what++) {
            int asked = what;
            scene.range("closest(blind, " + what + ")", 0, 1, (x, blind) -> x.closest(blind, asked));
        }
        scene.range("closest(0, what)", 0, 2, (x, what) -> x.closest(0, what));
        scene.range("closest(1, what)", 0, 2, (x, what) -> x.closest(1, what));
    }

    private void ofBestRepair() {
        sentence("bestRepair: INVALID_ARGUMENT if an argument is out of range");
        for (int what = 0; what <= 1; what++) {
            int asked = what;
            scene.range("bestRepair(word, 0, " + what + ")", 0, 3, (x, word) -> x.bestRepair(word, 0, asked));
            scene.range("bestRepair(0, blind, " + what + ")", 0, 1, (x, blind) -> x.bestRepair(0, blind, asked));
        }
        scene.range("bestRepair(0, 0, what)", 0, 1, (x, what) -> x.bestRepair(0, 0, what));
    }

    private void ofCount() {
        sentence("count: INVALID_ARGUMENT if what is out of range");
        scene.range("count(what)", 0, 6, FlippedBlinds::count);
        scene.range("count(what of a setting)", 20, 21, FlippedBlinds::count);
        for (int what = 7; what < 20; what++) {
            int asked = what;
            scene.unchanged("count(" + what + ")", x -> x.count(asked), INVALID);
        }
    }

    private void ofType() {
        sentence("type: 32 to 126");
        scene.range("type(character)", 32, 126, FlippedBlinds::type);
    }

    private void ofFault() {
        sentence("fault: INVALID_ARGUMENT if what is out of range");
        scene.range("fault(what)", 0, 2, FlippedBlinds::fault);
    }
}
