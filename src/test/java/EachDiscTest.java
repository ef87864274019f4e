/** Each disc of both blinds, stuck dark or bright alone: what the calls tell then, compared with the plain model. */
public final class EachDiscTest {
    private static final int[] COLUMNS = {24, 16};
    /** As wide as each blind allows, and letters that are alike in some dots only. */
    private static final String[][] WORDS = {{"mmjjab", "jjmmhk"}, {"majb", "jhmk"}};

    private final Checks checks = new Checks("EachDiscTest");
    private FlippedBlinds real;
    private PlainBlinds plain;
    private String where;

    public static void main(String[] args) {
        EachDiscTest test = new EachDiscTest();
        for (int blind = 0; blind < 2; blind++) {
            for (int column = 0; column < COLUMNS[blind]; column++) {
                for (int row = 0; row < 5; row++) {
                    test.stuck(blind, column, row, 0);
                    test.stuck(blind, column, row, 1);
                }
            }
        }
        test.checks.end();
    }

    private void due(String call, int got, int want) {
        checks.due(where + call, got, want);
    }

    private void stuck(int blind, int column, int row, int state) {
        where = "stick(" + blind + ", " + column + ", " + row + ", " + state + "), then ";
        real = new FlippedBlinds();
        plain = new PlainBlinds();
        for (String word : WORDS[blind]) {
            due("word", real.word(TestOfBlinds.letters(word)), plain.word(TestOfBlinds.letters(word)));
        }
        due("set", real.set(1, 2), plain.set(1, 2));
        due("stick", real.stick(blind, column, row, state), plain.stick(blind, column, row, state));
        questions(blind);
        for (int word = 0; word < 2; word++) {
            due("show", real.show(word, blind), plain.show(word, blind));
            questions(blind);
        }
        due("blank", real.blank(blind), plain.blank(blind));
        questions(blind);
        for (int what = 0; what < 4; what++) {
            due("disc " + what, real.disc(blind, column, row, what), plain.disc(blind, column, row, what));
        }
        due("repair", real.repair(blind, column), plain.repair(blind, column));
        questions(blind);
    }

    private void questions(int blind) {
        for (int what = 0; what <= 7; what++) {
            due("blindOf " + what, real.blindOf(blind, what), plain.blindOf(blind, what));
        }
        for (int word = 0; word < 2; word++) {
            for (int shift = 0; shift < 2; shift++) {
                due("margin of " + word + " at " + shift,
                    real.margin(word, blind, shift), plain.margin(word, blind, shift));
            }
            for (int what = 0; what <= 4; what++) {
                due("would " + what + " of " + word, real.would(word, blind, what), plain.would(word, blind, what));
            }
            for (int what = 0; what < 2; what++) {
                due("bestRepair " + what + " of " + word,
                    real.bestRepair(word, blind, what), plain.bestRepair(word, blind, what));
            }
        }
    }
}
