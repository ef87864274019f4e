import java.util.ArrayList;
import java.util.List;

/**
 * All that can be read of an object, the states of its history and what its text does included. An object
 * lasts for 512 calls only, so this comes in parts, and each part wants an object of its own.
 */
final class Readings {
    private static final int DISC_PORTIONS = 8;
    private static final int PORTIONS = DISC_PORTIONS + 7;
    private static final int MOST_UNDOS = 5;
    /** The parts that are read without any undo. */
    static final int PARTS_OF_NOW = PORTIONS;
    static final int PARTS = PORTIONS * (MOST_UNDOS + 1);

    private final FlippedBlinds x;
    private final List<Integer> answers = new ArrayList<>();

    private Readings(FlippedBlinds x) {
        this.x = x;
    }

    /** The answers of one part; the object is of no more use then. */
    static List<Integer> of(FlippedBlinds x, int part) {
        Readings readings = new Readings(x);
        for (int i = 0; i < part / PORTIONS; i++) {
            readings.answers.add(x.undo());
        }
        readings.portion(part % PORTIONS);
        return readings.answers;
    }

    static String name(int part) {
        return "part " + part % PORTIONS + " after " + part / PORTIONS + " undos";
    }

    private void portion(int portion) {
        if (portion < DISC_PORTIONS) {
            discs(portion / 4, portion % 4);
            return;
        }
        switch (portion - DISC_PORTIONS) {
            case 0: numbers(); break;
            case 1: margins(0, 22); break;
            case 2: margins(1, 14); break;
            case 3: wouldBe(); break;
            case 4: played(); break;
            case 5: typedOn(); break;
            default: changedAndUndone(); break;
        }
    }

    private void discs(int blind, int what) {
        for (int column = 0; column < (blind == 0 ? 24 : 16); column++) {
            for (int row = 0; row < 5; row++) {
                answers.add(x.disc(blind, column, row, what));
            }
        }
    }

    private void numbers() {
        for (int what = 0; what <= 21; what++) {
            answers.add(x.count(what));
        }
        for (int what = 0; what <= 8; what++) {
            answers.add(x.blindOf(0, what));
            answers.add(x.blindOf(1, what));
        }
        for (int word = 0; word < 10; word++) {
            for (int what = 0; what <= 4; what++) {
                answers.add(x.wordOf(word, what));
            }
        }
        for (int what = 0; what <= 2; what++) {
            answers.add(x.closest(0, what));
            answers.add(x.closest(1, what));
            answers.add(x.fault(what));
        }
    }

    private void margins(int blind, int shifts) {
        for (int word = 0; word < 10; word++) {
            for (int shift = 0; shift < shifts; shift++) {
                answers.add(x.margin(word, blind, shift));
            }
        }
    }

    private void wouldBe() {
        for (int word = 0; word < 10; word++) {
            for (int blind = 0; blind < 2; blind++) {
                for (int what = 0; what <= 4; what++) {
                    answers.add(x.would(word, blind, what));
                }
                answers.add(x.bestRepair(word, blind, 0));
                answers.add(x.bestRepair(word, blind, 1));
            }
        }
    }

    private void played() {
        answers.add(x.play());
        numbers();
    }

    private void typedOn() {
        for (char sign : ";b2".toCharArray()) {
            answers.add(x.type(sign));
            numbers();
        }
        answers.add(x.clearText());
    }

    private void changedAndUndone() {
        answers.add(x.blank(0));
        answers.add(x.blank(1));
        answers.add(x.undo());
        answers.add(x.undo());
        numbers();
    }
}
