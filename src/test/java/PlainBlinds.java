import java.util.ArrayDeque;
import java.util.ArrayList;
import java.util.BitSet;
import java.util.Deque;
import java.util.List;
import java.util.regex.Matcher;
import java.util.regex.Pattern;

/**
 * The document once more, as literally and slowly as it reads, to compare answers with. It shares no
 * code with FlippedBlinds: pictures are bit sets by rows, the state is copied whole, orders are read
 * by a regular expression.
 */
final class PlainBlinds {
    static final int INVALID_ARGUMENT = -1000001;
    static final int NOT_POSSIBLE = -1000002;
    static final int LIMIT_REACHED = -1000003;
    static final int NOT_FOUND = -1000004;

    private static final String[] LETTERS = {
        "25755", "65656", "34443", "65556", "74647", "74644", "34553", "55755",
        "72227", "11152", "55655", "44447", "57755", "65555", "25552", "65644"
    };
    private static final int[] COLUMNS = {24, 16};
    private static final Pattern ORDER = Pattern.compile(
        "(?:w[a-p]{1,6}|[sr]\\d{1,2},\\d{1,2}|b\\d{1,2}|k\\d{1,2},\\d{1,2},\\d{1,2},\\d{1,2});");

    private static final class Word {
        final int packed;
        final List<Integer> letters = new ArrayList<>();
        final List<BitSet> pictures = new ArrayList<>();
        int shown;

        Word(int packed) {
            this.packed = packed;
            for (int rest = packed; rest != 0; rest >>>= 5) {
                letters.add(0, rest % 32);
            }
            for (int shift = 0; shift + width() <= 24; shift++) {
                BitSet picture = new BitSet();
                for (int i = 0; i < letters.size(); i++) {
                    for (int row = 0; row < 5; row++) {
                        int digit = LETTERS[letters.get(i) - 1].charAt(row) - '0';
                        String dots = Integer.toBinaryString(8 + digit).substring(1);
                        for (int x = 0; x < 3; x++) {
                            picture.set(row * 24 + shift + 4 * i + x, dots.charAt(x) == '1');
                        }
                    }
                }
                pictures.add(picture);
            }
        }

        int width() {
            return 4 * letters.size() - 1;
        }

        Word copy() {
            Word word = new Word(packed);
            word.shown = shown;
            return word;
        }
    }

    private static final class State {
        List<Word> words = new ArrayList<>();
        BitSet[] bright = {new BitSet(), new BitSet()};
        BitSet[] stuck = {new BitSet(), new BitSet()};
        BitSet[] wanted = {new BitSet(), new BitSet()};
        int[][] wear = new int[2][120];
        int[] flips = new int[2];
        int[] settings = {2, 20};
        int worn;
        int repaired;
        int shown;

        State copy() {
            State to = new State();
            for (Word word : words) {
                to.words.add(word.copy());
            }
            for (int b = 0; b < 2; b++) {
                to.bright[b] = (BitSet) bright[b].clone();
                to.stuck[b] = (BitSet) stuck[b].clone();
                to.wanted[b] = (BitSet) wanted[b].clone();
                to.wear[b] = wear[b].clone();
            }
            to.flips = flips.clone();
            to.settings = settings.clone();
            to.worn = worn;
            to.repaired = repaired;
            to.shown = shown;
            return to;
        }
    }

    private State s = new State();
    private final Deque<State> history = new ArrayDeque<>();
    private final StringBuilder text = new StringBuilder();

    private static int far(BitSet one, BitSet other) {
        BitSet unlike = (BitSet) one.clone();
        unlike.xor(other);
        return unlike.cardinality();
    }

    private boolean noBlind(int blind) {
        return blind != 0 && blind != 1;
    }

    private boolean noWord(int word) {
        return word < 0 || word >= s.words.size();
    }

    private boolean noColumn(int blind, int column) {
        return noBlind(blind) || column < 0 || column >= COLUMNS[blind];
    }

    private int lastShift(Word word, int blind) {
        return COLUMNS[blind] - word.width();
    }

    private int marginOf(Word word, int blind, int shift, BitSet stuck) {
        BitSet picture = word.pictures.get(shift);
        BitSet seen = (BitSet) picture.clone();
        seen.andNot(stuck);
        BitSet fixed = (BitSet) s.bright[blind].clone();
        fixed.and(stuck);
        seen.or(fixed);
        int least = Integer.MAX_VALUE;
        for (Word other : s.words) {
            for (int t = 0; other != word && t <= lastShift(other, blind); t++) {
                least = Math.min(least, far(seen, other.pictures.get(t)));
            }
        }
        return least == Integer.MAX_VALUE ? 99 : least - far(seen, picture);
    }

    /** The shift and the margin there, or null. */
    private int[] best(Word word, int blind, BitSet stuck) {
        int[] best = null;
        for (int shift = 0; shift <= lastShift(word, blind); shift++) {
            int margin = marginOf(word, blind, shift, stuck);
            if (best == null || margin > best[1]) {
                best = new int[] {shift, margin};
            }
        }
        return best;
    }

    private int[] showable(Word word, int blind) {
        int[] best = best(word, blind, s.stuck[blind]);
        return best == null || best[1] < s.settings[0] ? null : best;
    }

    /** Discs flipped, and discs stuck by that. */
    private int[] want(int blind, BitSet picture) {
        int flipped = 0;
        int nowStuck = 0;
        s.wanted[blind] = (BitSet) picture.clone();
        for (int row = 0; row < 5; row++) {
            for (int column = 0; column < COLUMNS[blind]; column++) {
                int disc = row * 24 + column;
                if (!s.stuck[blind].get(disc) && s.bright[blind].get(disc) != picture.get(disc)) {
                    s.bright[blind].flip(disc);
                    s.wear[blind][disc]++;
                    s.flips[blind]++;
                    flipped++;
                    if (s.wear[blind][disc] >= s.settings[1]) {
                        s.stuck[blind].set(disc);
                        s.worn++;
                        nowStuck++;
                    }
                }
            }
        }
        return new int[] {flipped, nowStuck};
    }

    private int changed(State before, int answer) {
        if (answer >= 0) {
            history.addLast(before);
            if (history.size() == 5) {
                history.removeFirst();
            }
        }
        return answer;
    }

    int word(int letters) {
        State before = s.copy();
        return changed(before, doWord(letters));
    }

    private int doWord(int letters) {
        String bits = Integer.toBinaryString(letters);
        if (letters <= 0 || bits.length() > 30) {
            return INVALID_ARGUMENT;
        }
        for (int rest = letters; rest != 0; rest >>= 5) {
            if (rest % 32 == 0 || rest % 32 > 16) {
                return INVALID_ARGUMENT;
            }
        }
        for (Word word : s.words) {
            if (word.packed == letters) {
                return NOT_POSSIBLE;
            }
        }
        if (s.words.size() == 10) {
            return LIMIT_REACHED;
        }
        s.words.add(new Word(letters));
        return s.words.size() - 1;
    }

    int unword(int word) {
        if (noWord(word)) {
            return INVALID_ARGUMENT;
        }
        State before = s.copy();
        s.words.remove(word);
        return changed(before, s.words.size());
    }

    int show(int word, int blind) {
        State before = s.copy();
        return changed(before, doShow(word, blind));
    }

    private int doShow(int number, int blind) {
        if (noWord(number) || noBlind(blind)) {
            return INVALID_ARGUMENT;
        }
        Word word = s.words.get(number);
        int[] best = showable(word, blind);
        if (best == null) {
            return NOT_POSSIBLE;
        }
        want(blind, word.pictures.get(best[0]));
        word.shown++;
        s.shown++;
        return best[0];
    }

    int blank(int blind) {
        State before = s.copy();
        return changed(before, doBlank(blind));
    }

    private int doBlank(int blind) {
        if (noBlind(blind)) {
            return INVALID_ARGUMENT;
        }
        want(blind, new BitSet());
        return s.bright[blind].cardinality();
    }

    int stick(int blind, int column, int row, int state) {
        State before = s.copy();
        return changed(before, doStick(blind, column, row, state));
    }

    private int doStick(int blind, int column, int row, int state) {
        if (noColumn(blind, column) || row < 0 || row > 4 || state < 0 || state > 2) {
            return INVALID_ARGUMENT;
        }
        int disc = row * 24 + column;
        if (state == 2) {
            s.stuck[blind].clear(disc);
        } else {
            s.stuck[blind].set(disc);
            s.bright[blind].set(disc, state == 1);
        }
        return s.stuck[blind].cardinality();
    }

    int repair(int blind, int column) {
        State before = s.copy();
        return changed(before, doRepair(blind, column));
    }

    private int doRepair(int blind, int column) {
        if (noColumn(blind, column)) {
            return INVALID_ARGUMENT;
        }
        int were = 0;
        for (int row = 0; row < 5; row++) {
            int disc = row * 24 + column;
            were += s.stuck[blind].get(disc) ? 1 : 0;
            s.stuck[blind].clear(disc);
            s.wear[blind][disc] = 0;
        }
        s.repaired++;
        return were;
    }

    int set(int what, int value) {
        boolean good = what == 0 && value >= 1 && value <= 9 || what == 1 && value >= 2 && value <= 99;
        if (!good) {
            return INVALID_ARGUMENT;
        }
        State before = s.copy();
        int old = s.settings[what];
        s.settings[what] = value;
        return changed(before, old);
    }

    int disc(int blind, int column, int row, int what) {
        if (noColumn(blind, column) || row < 0 || row > 4 || what < 0 || what > 3) {
            return INVALID_ARGUMENT;
        }
        int disc = row * 24 + column;
        int[] answers = {
            s.bright[blind].get(disc) ? 1 : 0, s.stuck[blind].get(disc) ? 1 : 0,
            s.wear[blind][disc], s.wanted[blind].get(disc) ? 1 : 0
        };
        return answers[what];
    }

    int blindOf(int blind, int what) {
        if (noBlind(blind) || what < 0 || what > 8) {
            return INVALID_ARGUMENT;
        }
        int[] read = {NOT_FOUND, NOT_FOUND, NOT_FOUND};
        int set = 0;
        for (int number = 0; number < s.words.size(); number++) {
            Word word = s.words.get(number);
            for (int shift = 0; shift <= lastShift(word, blind); shift++) {
                int far = far(s.bright[blind], word.pictures.get(shift));
                if (read[0] == NOT_FOUND || far < read[2]) {
                    read = new int[] {number, shift, far};
                }
            }
            set += what == 7 && showable(word, blind) != null ? 1 << number : 0;
        }
        int[] answers = {
            s.bright[blind].cardinality(), s.stuck[blind].cardinality(),
            far(s.bright[blind], s.wanted[blind]), s.flips[blind],
            read[0], read[1], read[2], set, COLUMNS[blind]
        };
        return answers[what];
    }

    int wordOf(int number, int what) {
        if (noWord(number) || what < 0 || what > 4) {
            return INVALID_ARGUMENT;
        }
        Word word = s.words.get(number);
        int[] answers = {
            word.packed, word.letters.size(), word.width(), word.pictures.get(0).cardinality(), word.shown
        };
        return answers[what];
    }

    int margin(int word, int blind, int shift) {
        if (noWord(word) || noBlind(blind) || shift < 0 || shift > lastShift(s.words.get(word), blind)) {
            return INVALID_ARGUMENT;
        }
        return 1000 + marginOf(s.words.get(word), blind, shift, s.stuck[blind]);
    }

    int would(int number, int blind, int what) {
        if (noWord(number) || noBlind(blind) || what < 0 || what > 4) {
            return INVALID_ARGUMENT;
        }
        Word word = s.words.get(number);
        int[] best = showable(word, blind);
        if (best == null) {
            return NOT_POSSIBLE;
        }
        State before = s;
        s = s.copy();
        int[] done = want(blind, word.pictures.get(best[0]));
        int unlike = far(s.bright[blind], s.wanted[blind]);
        s = before;
        return new int[] {best[0], best[1], done[0], done[1], unlike}[what];
    }

    int closest(int blind, int what) {
        if (noBlind(blind) || what < 0 || what > 2) {
            return INVALID_ARGUMENT;
        }
        int[] best = {NOT_FOUND, NOT_FOUND, NOT_FOUND};
        for (int a = 0; a < s.words.size(); a++) {
            for (int b = a + 1; b < s.words.size(); b++) {
                Word one = s.words.get(a);
                Word other = s.words.get(b);
                for (int x = 0; x <= lastShift(one, blind); x++) {
                    for (int y = 0; y <= lastShift(other, blind); y++) {
                        int far = far(one.pictures.get(x), other.pictures.get(y));
                        if (best[0] == NOT_FOUND || far < best[2]) {
                            best = new int[] {a, b, far};
                        }
                    }
                }
            }
        }
        return best[what];
    }

    int bestRepair(int number, int blind, int what) {
        if (noWord(number) || noBlind(blind) || what < 0 || what > 1) {
            return INVALID_ARGUMENT;
        }
        int[] found = null;
        for (int column = 0; column < COLUMNS[blind]; column++) {
            BitSet stuck = (BitSet) s.stuck[blind].clone();
            for (int row = 0; row < 5; row++) {
                stuck.clear(row * 24 + column);
            }
            int[] best = best(s.words.get(number), blind, stuck);
            if (best == null) {
                return NOT_POSSIBLE;
            }
            if (found == null || best[1] > found[1]) {
                found = new int[] {column, best[1]};
            }
        }
        return what == 0 ? found[0] : found[1] + 1000;
    }

    int count(int what) {
        switch (what) {
            case 0: return s.words.size();
            case 1: return s.flips[0] + s.flips[1];
            case 2: return s.worn;
            case 3: return s.repaired;
            case 4: return s.shown;
            case 5: return history.size();
            case 6: return text.length();
            case 20: return s.settings[0];
            case 21: return s.settings[1];
            default: return INVALID_ARGUMENT;
        }
    }

    int undo() {
        if (history.isEmpty()) {
            return NOT_POSSIBLE;
        }
        s = history.removeLast();
        return history.size();
    }

    int type(int character) {
        if (character < 32 || character > 126) {
            return INVALID_ARGUMENT;
        }
        if (text.length() == 60) {
            return LIMIT_REACHED;
        }
        text.append((char) character);
        return text.length();
    }

    int clearText() {
        int length = text.length();
        text.setLength(0);
        return length;
    }

    private int obey(String order) {
        String inner = order.substring(1, order.length() - 1);
        if (order.charAt(0) == 'w') {
            int packed = 0;
            for (char letter : inner.toCharArray()) {
                packed = packed * 32 + letter - 'a' + 1;
            }
            return doWord(packed);
        }
        String[] n = inner.split(",");
        int first = Integer.parseInt(n[0]);
        switch (order.charAt(0)) {
            case 's': return doShow(first, Integer.parseInt(n[1]));
            case 'b': return doBlank(first);
            case 'r': return doRepair(first, Integer.parseInt(n[1]));
            default:
                return doStick(first, Integer.parseInt(n[1]), Integer.parseInt(n[2]), Integer.parseInt(n[3]));
        }
    }

    private static int breaksOff(String rest) {
        int longest = 0;
        for (int length = 1; length <= rest.length(); length++) {
            Matcher matcher = ORDER.matcher(rest.substring(0, length));
            if (matcher.matches() || matcher.hitEnd()) {
                longest = length;
            }
        }
        return longest;
    }

    /** Position, reason and cause of the fault, or null and the number of orders in orders[0]. */
    private int[] tryOrders(int[] orders) {
        int position = 0;
        while (position < text.length()) {
            String rest = text.substring(position);
            Matcher matcher = ORDER.matcher(rest);
            if (!matcher.lookingAt()) {
                return new int[] {position, 1, breaksOff(rest)};
            }
            int answer = obey(matcher.group());
            if (answer < 0) {
                return new int[] {position, 2, answer};
            }
            orders[0]++;
            position += matcher.end();
        }
        return null;
    }

    int fault(int what) {
        if (what < 0 || what > 2) {
            return INVALID_ARGUMENT;
        }
        State before = s;
        s = s.copy();
        int[] fault = tryOrders(new int[1]);
        s = before;
        return fault == null ? NOT_FOUND : fault[what];
    }

    int play() {
        State before = s;
        s = s.copy();
        int[] orders = new int[1];
        if (tryOrders(orders) != null) {
            s = before;
            return NOT_POSSIBLE;
        }
        return changed(before, orders[0]);
    }
}
