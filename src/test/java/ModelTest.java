/** Long runs of mixed calls, the same ones on every day, compared with the plain model of the document. */
public final class ModelTest {
    private static final int RUNS = 400;
    private static final int MOST_CALLS = 512;
    private static final int[] ODD = {-1, 10, 16, 24, 25, 61, 100, Integer.MIN_VALUE, Integer.MAX_VALUE};

    private final Checks checks = new Checks("ModelTest");
    private long seed;
    private int run;
    private int calls;
    private int longestWord;
    private int letterKinds;
    private FlippedBlinds real;
    private PlainBlinds plain;

    public static void main(String[] args) {
        ModelTest test = new ModelTest();
        for (int run = 0; run < RUNS && !test.checks.hasWrong(); run++) {
            test.play(run);
        }
        test.checks.end();
    }

    private int below(int bound) {
        seed = seed * 6364136223846793005L + 1442695040888963407L;
        return (int) ((seed >>> 33) % bound);
    }

    /** A number below the bound, and now and then one that no call takes, or few. */
    private int mostlyBelow(int bound) {
        return below(60) == 0 ? ODD[below(ODD.length)] : below(bound);
    }

    private void due(String call, int got, int want) {
        calls++;
        checks.due("run " + run + ", call " + calls + ", " + call, got, want);
    }

    private void play(int number) {
        run = number;
        seed = 977L * number + 5;
        calls = 0;
        longestWord = 1 + number % 6;
        letterKinds = number % 4 == 0 ? 3 : 16;
        real = new FlippedBlinds();
        plain = new PlainBlinds();
        if (number % 3 == 0) {
            set(1, 2 + below(3));
        }
        if (number % 5 == 0) {
            set(0, 1);
        }
        while (calls < 400 && !checks.hasWrong()) {
            if (number % 7 == 6) {
                wearOut();
            }
            mixedCall();
        }
        sweep();
    }

    private void wearOut() {
        int blind = below(2);
        show(below(10), blind);
        if (below(3) == 0) {
            blank(blind);
        }
    }

    /** All numbers, and one thing of as many discs as there are calls left for. */
    private void sweep() {
        for (int what = 0; what <= 21; what++) {
            due("count(" + what + ")", real.count(what), plain.count(what));
        }
        int what = below(4);
        for (int column = 0; column < 24; column++) {
            for (int row = 0; row < 5 && calls < MOST_CALLS; row++) {
                disc(run % 2, column, row, what);
            }
        }
    }

    private int packedLetters() {
        int packed = 0;
        int number = 1 + below(longestWord);
        for (int i = 0; i < number; i++) {
            packed = packed * 32 + 1 + below(letterKinds);
        }
        return below(30) == 0 ? packed ^ (1 << below(32)) : packed;
    }

    private void mixedCall() {
        switch (below(24)) {
            case 0:
            case 1: word(packedLetters()); break;
            case 2: maybeUnword(); break;
            case 3:
            case 4:
            case 5:
            case 6: show(mostlyBelow(10), mostlyBelow(2)); break;
            case 7: blank(mostlyBelow(2)); break;
            case 8:
            case 9: stick(mostlyBelow(2), mostlyBelow(24), mostlyBelow(5), mostlyBelow(3)); break;
            case 10: repair(mostlyBelow(2), mostlyBelow(24)); break;
            case 11: maybeSet(); break;
            case 12:
            case 13: disc(mostlyBelow(2), mostlyBelow(24), mostlyBelow(5), mostlyBelow(4)); break;
            case 14:
            case 15: blindOf(mostlyBelow(2), mostlyBelow(9)); break;
            case 16: wordOf(mostlyBelow(10), mostlyBelow(5)); break;
            case 17: margin(mostlyBelow(10), mostlyBelow(2), mostlyBelow(22)); break;
            case 18:
            case 19: would(mostlyBelow(10), mostlyBelow(2), mostlyBelow(5)); break;
            case 20: closest(mostlyBelow(2), mostlyBelow(3)); break;
            case 21: bestRepair(mostlyBelow(10), mostlyBelow(2), mostlyBelow(2)); break;
            case 22: countOrUndo(); break;
            default: texts(); break;
        }
    }

    private void word(int letters) {
        due("word(" + letters + ")", real.word(letters), plain.word(letters));
    }

    private void maybeUnword() {
        if (below(3) == 0) {
            int word = mostlyBelow(10);
            due("unword(" + word + ")", real.unword(word), plain.unword(word));
        }
    }

    private void show(int word, int blind) {
        due("show(" + word + ", " + blind + ")", real.show(word, blind), plain.show(word, blind));
    }

    private void blank(int blind) {
        due("blank(" + blind + ")", real.blank(blind), plain.blank(blind));
    }

    private void stick(int blind, int column, int row, int state) {
        due("stick(" + blind + ", " + column + ", " + row + ", " + state + ")",
            real.stick(blind, column, row, state), plain.stick(blind, column, row, state));
    }

    private void repair(int blind, int column) {
        due("repair(" + blind + ", " + column + ")", real.repair(blind, column), plain.repair(blind, column));
    }

    private void set(int what, int value) {
        due("set(" + what + ", " + value + ")", real.set(what, value), plain.set(what, value));
    }

    private void maybeSet() {
        int what = mostlyBelow(2);
        if (below(2) == 0) {
            set(what, mostlyBelow(what == 0 ? 5 : 8));
        } else {
            set(what, what == 0 ? 2 : 4);
        }
    }

    private void disc(int blind, int column, int row, int what) {
        due("disc(" + blind + ", " + column + ", " + row + ", " + what + ")",
            real.disc(blind, column, row, what), plain.disc(blind, column, row, what));
    }

    private void blindOf(int blind, int what) {
        due("blindOf(" + blind + ", " + what + ")", real.blindOf(blind, what), plain.blindOf(blind, what));
    }

    private void wordOf(int word, int what) {
        due("wordOf(" + word + ", " + what + ")", real.wordOf(word, what), plain.wordOf(word, what));
    }

    private void margin(int word, int blind, int shift) {
        due("margin(" + word + ", " + blind + ", " + shift + ")",
            real.margin(word, blind, shift), plain.margin(word, blind, shift));
    }

    private void would(int word, int blind, int what) {
        due("would(" + word + ", " + blind + ", " + what + ")",
            real.would(word, blind, what), plain.would(word, blind, what));
    }

    private void closest(int blind, int what) {
        due("closest(" + blind + ", " + what + ")", real.closest(blind, what), plain.closest(blind, what));
    }

    private void bestRepair(int word, int blind, int what) {
        due("bestRepair(" + word + ", " + blind + ", " + what + ")",
            real.bestRepair(word, blind, what), plain.bestRepair(word, blind, what));
    }

    private void countOrUndo() {
        if (below(2) == 0) {
            int what = mostlyBelow(23);
            due("count(" + what + ")", real.count(what), plain.count(what));
        } else {
            due("undo()", real.undo(), plain.undo());
        }
    }

    /** Types some orders, right ones and wrong ones, and asks about them. */
    private void texts() {
        StringBuilder orders = new StringBuilder();
        for (int i = 1 + below(3); i > 0; i--) {
            orders.append(anyOrder());
        }
        if (below(4) == 0) {
            int place = below(orders.length());
            orders.setCharAt(place, "abkprsw019,; ~".charAt(below(14)));
        }
        if (below(6) == 0) {
            orders.setLength(below(orders.length() + 1));
        }
        for (int i = 0; i < orders.length() && calls < 400; i++) {
            int sign = orders.charAt(i);
            due("type(" + sign + ")", real.type(sign), plain.type(sign));
        }
        for (int what = 0; what < 3; what++) {
            due("fault(" + what + ")", real.fault(what), plain.fault(what));
        }
        due("play()", real.play(), plain.play());
        if (below(3) > 0) {
            due("clearText()", real.clearText(), plain.clearText());
        }
    }

    private String anyOrder() {
        switch (below(6)) {
            case 0:
            case 1: return lettersOrder();
            case 2: return "s" + digits(10) + "," + digits(2) + ";";
            case 3: return "b" + digits(2) + ";";
            case 4: return "k" + digits(2) + "," + digits(24) + "," + digits(5) + "," + digits(3) + ";";
            default: return "r" + digits(2) + "," + digits(24) + ";";
        }
    }

    private String digits(int bound) {
        int number = below(25) == 0 ? below(100) : below(bound);
        return number < 10 && below(5) == 0 ? "0" + number : "" + number;
    }

    private String lettersOrder() {
        StringBuilder order = new StringBuilder("w");
        int number = below(20) == 0 ? 7 : 1 + below(longestWord);
        for (int i = 0; i < number; i++) {
            order.append((char) ('a' + below(letterKinds)));
        }
        return order.append(';').toString();
    }
}
