import java.util.function.ToIntFunction;

/**
 * Each call that is refused with another code than INVALID_ARGUMENT, or with several errors at once, and
 * each question: it leaves all unchanged. ArgumentsTest has those with one argument out of its range.
 */
public final class RefusalsTest extends TestOfBlinds {
    private final Scene empty = new Scene(checks, "a new object", x -> { });
    private final Scene tight = new Scene(checks, "words that are too alike", RefusalsTest::makeTight);
    private final Scene full = new Scene(checks, "all full", RefusalsTest::makeFull);
    private final Scene wrongForm = new Scene(checks, "a text of no form", x -> makeText(x, "wc;s1,0;b1;b0"));
    private final Scene wrongOrder = new Scene(checks, "a text that cannot be done", x -> makeText(x, "wc;s1,0;b2;b0"));

    public static void main(String[] args) {
        RefusalsTest test = new RefusalsTest();
        test.withoutWords();
        test.notPossible();
        test.limits();
        test.faultyTexts();
        test.notFound();
        test.invalidRatherThanOthers();
        test.invalidOfAFullObject();
        test.notPossibleRatherThanLimit();
        test.questions(test.empty, 0);
        test.questions(test.tight, 3);
        test.questions(test.full, 10);
        test.checks.end();
    }

    /** h and k are one dot apart, and the margin that is wanted is 2; aaaaa is too wide for blind 1. */
    private static void makeTight(FlippedBlinds x) {
        for (String word : new String[] {"h", "k", "aaaaa"}) {
            x.word(letters(word));
        }
        x.set(0, 1);
        x.set(1, 3);
        x.show(0, 0);
        x.blank(0);
        x.show(1, 1);
        x.stick(1, 2, 2, 1);
        x.show(0, 0);
        x.set(0, 2);
    }

    /** Ten words, a text of 60 characters without a fault, four states. */
    private static void makeFull(FlippedBlinds x) {
        for (int letter = 1; letter <= 10; letter++) {
            x.word(letter);
        }
        x.show(3, 0);
        x.repair(0, 1);
        x.stick(0, 23, 4, 1);
        x.show(9, 1);
        typeAll(x, "b0;b1;b0;b1;b0;b1;b0;b1;b0;b1;b0;b1;b0;b1;b0;b1;b0;b1;b0;b1;");
    }

    private static void makeText(FlippedBlinds x, String text) {
        x.word(letters("a"));
        x.show(0, 1);
        typeAll(x, text);
    }

    private void invalid(Scene scene, String call, ToIntFunction<FlippedBlinds> answer) {
        scene.unchanged(call, answer, INVALID);
    }

    private void withoutWords() {
        sentence("If there is no word with a certain number, this is INVALID_ARGUMENT");
        invalid(empty, "unword(0)", x -> x.unword(0));
        invalid(empty, "show(0, 0)", x -> x.show(0, 0));
        invalid(empty, "wordOf(0, 0)", x -> x.wordOf(0, 0));
        invalid(empty, "margin(0, 0, 0)", x -> x.margin(0, 0, 0));
        invalid(empty, "would(0, 0, 0)", x -> x.would(0, 0, 0));
        invalid(empty, "bestRepair(0, 0, 0)", x -> x.bestRepair(0, 0, 0));
        invalid(full, "unword(10)", x -> x.unword(10));
        invalid(full, "show(10, 0)", x -> x.show(10, 0));
        invalid(full, "wordOf(10, 0)", x -> x.wordOf(10, 0));
        invalid(full, "margin(10, 0, 0)", x -> x.margin(10, 0, 0));
        invalid(full, "would(10, 0, 0)", x -> x.would(10, 0, 0));
        invalid(full, "bestRepair(10, 0, 0)", x -> x.bestRepair(10, 0, 0));
    }

    private void notPossible() {
        sentence("word: NOT_POSSIBLE if there is the same word");
        tight.unchanged("word that is the first one", x -> x.word(letters("h")), IMPOSSIBLE);
        tight.unchanged("word that is the last one", x -> x.word(letters("aaaaa")), IMPOSSIBLE);
        sentence("show: NOT_POSSIBLE if it can be shown at no shift");
        tight.unchanged("show, the margin is 1 less", x -> x.show(0, 0), IMPOSSIBLE);
        tight.unchanged("show on the other blind", x -> x.show(1, 1), IMPOSSIBLE);
        tight.unchanged("show, too wide", x -> x.show(2, 1), IMPOSSIBLE);
        sentence("would: NOT_POSSIBLE if it can be shown at no shift");
        for (int what = 0; what <= 4; what++) {
            int asked = what;
            tight.unchanged("would " + what + ", the margin is 1 less", x -> x.would(0, 0, asked), IMPOSSIBLE);
            tight.unchanged("would " + what + ", too wide", x -> x.would(2, 1, asked), IMPOSSIBLE);
        }
        sentence("bestRepair: NOT_POSSIBLE if the word cannot stand on the blind");
        tight.unchanged("bestRepair 0, too wide", x -> x.bestRepair(2, 1, 0), IMPOSSIBLE);
        tight.unchanged("bestRepair 1, too wide", x -> x.bestRepair(2, 1, 1), IMPOSSIBLE);
        sentence("undo: NOT_POSSIBLE if it is empty");
        empty.unchanged("undo()", FlippedBlinds::undo, IMPOSSIBLE);
    }

    private void limits() {
        sentence("word: LIMIT_REACHED if there are 10");
        full.unchanged("word 11", x -> x.word(11), LIMIT);
        full.unchanged("word of six", x -> x.word(letters("pppppp")), LIMIT);
        sentence("type: LIMIT_REACHED if it has 60 characters");
        full.unchanged("type(32)", x -> x.type(32), LIMIT);
        full.unchanged("type(126)", x -> x.type(126), LIMIT);
        full.unchanged("type(;)", x -> x.type(';'), LIMIT);
    }

    private void faultyTexts() {
        sentence("play: NOT_POSSIBLE if it has a fault");
        wrongForm.unchanged("play()", FlippedBlinds::play, IMPOSSIBLE);
        wrongOrder.unchanged("play()", FlippedBlinds::play, IMPOSSIBLE);
        sentence("fault");
        int[][] due = {{11, 1, 2}, {8, 2, INVALID}};
        for (int what = 0; what <= 2; what++) {
            int asked = what;
            wrongForm.unchanged("fault(" + what + ")", x -> x.fault(asked), due[0][what]);
            wrongOrder.unchanged("fault(" + what + ")", x -> x.fault(asked), due[1][what]);
        }
    }

    private void notFound() {
        sentence("blindOf: NOT_FOUND for 4 to 6 if no word can stand on it");
        for (int what = 4; what <= 6; what++) {
            int asked = what;
            empty.unchanged("blindOf(0, " + what + ")", x -> x.blindOf(0, asked), NOTHING);
            empty.unchanged("blindOf(1, " + what + ")", x -> x.blindOf(1, asked), NOTHING);
        }
        sentence("closest: NOT_FOUND if fewer than two words can stand on it");
        for (int what = 0; what <= 2; what++) {
            int asked = what;
            empty.unchanged("closest(0, " + what + ")", x -> x.closest(0, asked), NOTHING);
            empty.unchanged("closest(1, " + what + ")", x -> x.closest(1, asked), NOTHING);
            wrongForm.unchanged("closest(1, " + what + ") of one word", x -> x.closest(1, asked), NOTHING);
        }
        sentence("fault: NOT_FOUND if the text has no fault (also if it is empty)");
        for (int what = 0; what <= 2; what++) {
            int asked = what;
            empty.unchanged("fault(" + what + ") of no text", x -> x.fault(asked), NOTHING);
            full.unchanged("fault(" + what + ") of a full text", x -> x.fault(asked), NOTHING);
        }
    }

    private void invalidRatherThanOthers() {
        sentence("If several errors apply to a call, INVALID_ARGUMENT is returned rather than NOT_POSSIBLE");
        invalid(tight, "show of no word", x -> x.show(3, 2));
        invalid(tight, "show, too wide, of no blind", x -> x.show(2, 2));
        invalid(tight, "show, too alike, of no blind", x -> x.show(0, -1));
        invalid(tight, "would, too alike, what 5", x -> x.would(0, 0, 5));
        invalid(tight, "would, too alike, what -1", x -> x.would(0, 0, -1));
        invalid(tight, "would, too wide, what 5", x -> x.would(2, 1, 5));
        invalid(tight, "would, too wide, what -1", x -> x.would(2, 1, -1));
        invalid(tight, "bestRepair, too wide, what 2", x -> x.bestRepair(2, 1, 2));
        invalid(tight, "bestRepair, too wide, what -1", x -> x.bestRepair(2, 1, -1));
        sentence("INVALID_ARGUMENT rather than NOT_FOUND");
        invalid(empty, "blindOf(2, 4)", x -> x.blindOf(2, 4));
        invalid(empty, "blindOf(-1, 6)", x -> x.blindOf(-1, 6));
        invalid(empty, "closest(2, 0)", x -> x.closest(2, 0));
        invalid(empty, "closest(-1, 0)", x -> x.closest(-1, 0));
        invalid(empty, "closest(0, 3)", x -> x.closest(0, 3));
        invalid(empty, "closest(0, -1)", x -> x.closest(0, -1));
        invalid(empty, "fault(3)", x -> x.fault(3));
        invalid(empty, "fault(-1)", x -> x.fault(-1));
        invalid(full, "fault(3)", x -> x.fault(3));
        invalid(full, "fault(-1)", x -> x.fault(-1));
    }

    private void invalidOfAFullObject() {
        sentence("If several errors apply to a call, INVALID_ARGUMENT is returned rather than LIMIT_REACHED");
        invalid(full, "word(0)", x -> x.word(0));
        invalid(full, "word(17)", x -> x.word(17));
        invalid(full, "word(-1)", x -> x.word(-1));
        invalid(full, "type(31)", x -> x.type(31));
        invalid(full, "type(127)", x -> x.type(127));
    }

    private void notPossibleRatherThanLimit() {
        sentence("NOT_POSSIBLE rather than LIMIT_REACHED");
        full.unchanged("word that is the first of ten", x -> x.word(1), IMPOSSIBLE);
        full.unchanged("word that is the last of ten", x -> x.word(10), IMPOSSIBLE);
    }

    /** Each question that is answered, too; the changes are eight calls, and no other one is. */
    private void questions(Scene scene, int words) {
        sentence("The changes are the calls of word, unword, show, blank, stick, repair, set and play");
        asked(scene, "disc", x -> x.disc(0, 23, 4, 0) + x.disc(1, 15, 4, 2) + x.disc(0, 0, 0, 3));
        asked(scene, "count", x -> x.count(1) + x.count(5) + x.count(21));
        asked(scene, "fault", x -> x.fault(0) + x.fault(1) + x.fault(2));
        for (int blind = 0; blind < 2; blind++) {
            int on = blind;
            asked(scene, "blindOf", x -> x.blindOf(on, 4) + x.blindOf(on, 5) + x.blindOf(on, 7));
            asked(scene, "closest", x -> x.closest(on, 0) + x.closest(on, 1) + x.closest(on, 2));
            for (int word = 0; word < words; word += 2) {
                int of = word;
                asked(scene, "wordOf", x -> x.wordOf(of, 0) + x.wordOf(of, 4));
                asked(scene, "margin", x -> x.margin(of, on, 0) + x.margin(of, on, 1));
                asked(scene, "would", x -> x.would(of, on, 2) + x.would(of, on, 3) + x.would(of, on, 4));
                asked(scene, "bestRepair", x -> x.bestRepair(of, on, 0) + x.bestRepair(of, on, 1));
            }
        }
    }

    private void asked(Scene scene, String question, ToIntFunction<FlippedBlinds> sum) {
        scene.unchanged(question + ", asked twice,", sum, sum.applyAsInt(scene.made()));
    }
}
