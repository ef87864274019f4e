/** What the tests of the document share: the checks, and words and texts that are told by their signs. */
abstract class TestOfBlinds {
    static final int INVALID = -1000001;
    static final int IMPOSSIBLE = -1000002;
    static final int LIMIT = -1000003;
    static final int NOTHING = -1000004;
    static final int[] COLUMNS = {24, 16};
    static final int ROWS = 5;

    final Checks checks = new Checks(getClass().getName());

    void due(String call, int got, int want) {
        checks.due(call, got, want);
    }

    void sentence(String words) {
        checks.about(words);
    }

    /** The number that tells letters from a to p. */
    static int letters(String text) {
        int packed = 0;
        for (char letter : text.toCharArray()) {
            packed = packed * 32 + letter - 'a' + 1;
        }
        return packed;
    }

    static FlippedBlinds withWords(String... words) {
        FlippedBlinds x = new FlippedBlinds();
        for (String word : words) {
            x.word(letters(word));
        }
        return x;
    }

    static void typeAll(FlippedBlinds x, String text) {
        x.clearText();
        for (char sign : text.toCharArray()) {
            x.type(sign);
        }
    }

    /** Sticks a row of a blind from a column on, up to another one, which stays out. */
    static void stickRow(FlippedBlinds x, int blind, int from, int to, int row, int state) {
        for (int column = from; column < to; column++) {
            x.stick(blind, column, row, state);
        }
    }

    static void stickAll(FlippedBlinds x, int blind, int state) {
        for (int row = 0; row < ROWS; row++) {
            stickRow(x, blind, 0, COLUMNS[blind], row, state);
        }
    }

    /** The word a and a text. */
    static FlippedBlinds withText(String text) {
        FlippedBlinds x = withWords("a");
        typeAll(x, text);
        return x;
    }

    /** Behind the word a this text has a fault, and neither asking nor playing does any of its orders. */
    void dueFault(String text, int place, int reason, int cause) {
        FlippedBlinds x = withText(text);
        due("position of '" + text + "'", x.fault(0), place);
        due("reason of '" + text + "'", x.fault(1), reason);
        due("cause of '" + text + "'", x.fault(2), cause);
        due("what 3 of '" + text + "'", x.fault(3), INVALID);
        due("play of '" + text + "'", x.play(), IMPOSSIBLE);
        due("states of '" + text + "'", x.count(5), 1);
        due("words of '" + text + "'", x.count(0), 1);
        due("length of '" + text + "'", x.count(6), text.length());
    }

    /** Behind the word a this text has so many orders and no fault, and playing it is one change. */
    void dueOrders(String text, int orders) {
        FlippedBlinds x = withText(text);
        for (int what = 0; what <= 2; what++) {
            due("fault(" + what + ") of '" + text + "'", x.fault(what), NOTHING);
        }
        due("play of '" + text + "'", x.play(), orders);
        due("states of '" + text + "'", x.count(5), 2);
        due("length of '" + text + "'", x.count(6), text.length());
    }
}
