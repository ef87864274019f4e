/** Two blinds of a bus, made of discs that are flipped, and the words that they show. */
public final class FlippedBlinds {
    public static final int INVALID_ARGUMENT = -1000001;
    public static final int NOT_POSSIBLE = -1000002;
    public static final int LIMIT_REACHED = -1000003;
    public static final int NOT_FOUND = -1000004;

    private static final int ROWS = 5;
    private static final int WIDE_COLUMNS = 24;
    private static final int NARROW_COLUMNS = 16;
    /** The dots of 24 columns do not fit into one long, so each long holds those of 12. */
    private static final int HALF_COLUMNS = 12;
    /** All dots of one column. */
    private static final long WHOLE_COLUMN = 31;
    private static final int LETTER_COLUMNS = 3;
    private static final int LETTER_STEP = 4;
    private static final int LAST_LETTER = 16;
    private static final int LETTER_BITS = 5;
    private static final int LETTER_MASK = 31;
    private static final int MOST_LETTERS = 6;
    private static final int MOST_WORDS = 10;
    /** A word of one letter has the most shifts, on the wide blind. */
    private static final int MOST_SHIFTS = WIDE_COLUMNS - LETTER_COLUMNS + 1;
    private static final int MOST_STATES = 4;
    private static final int MOST_SIGNS = 60;
    private static final int FIRST_SIGN = 32;
    private static final int LAST_SIGN = 126;
    private static final int MARGIN_ALONE = 99;
    private static final int MARGIN_BASE = 1000;
    /** Farther than any two pictures can be apart. */
    private static final int FAR_OFF = 1000;
    /** Stands for no word, shift, place or column. */
    private static final int NONE = -1;
    private static final int NOT_OF_THE_FORM = 1;
    private static final int NOT_TO_BE_DONE = 2;

    /** The rows of each letter from above, a hexadecimal digit each, as the document tells them. */
    private static final int[] LETTERS = {
        0, 0x25755, 0x65656, 0x34443, 0x65556, 0x74647, 0x74644, 0x34553, 0x55755,
        0x72227, 0x11152, 0x55655, 0x44447, 0x57755, 0x65555, 0x25552, 0x65644
    };

    private final State now;
    /** The orders of the text are tried on it, so that the state of now stays as it is. */
    private final State trial;
    private final History history;
    private final Text text;
    private final Order order;
    private int faultPlace;
    private int faultReason;
    private int faultCause;

    public FlippedBlinds() {
        now = new State();
        trial = new State();
        history = new History();
        text = new Text();
        order = new Order();
    }

    // ---- words

    public int word(int letters) {
        history.prepare(now);
        return kept(now.addWord(letters));
    }

    public int unword(int word) {
        history.prepare(now);
        return kept(now.takeWord(word));
    }

    // ---- blinds

    public int show(int word, int blind) {
        history.prepare(now);
        return kept(now.showWord(word, blind));
    }

    public int blank(int blind) {
        history.prepare(now);
        return kept(now.darken(blind));
    }

    public int stick(int blind, int column, int row, int state) {
        history.prepare(now);
        return kept(now.stickDisc(blind, column, row, state));
    }

    public int repair(int blind, int column) {
        history.prepare(now);
        return kept(now.repairColumn(blind, column));
    }

    public int set(int what, int value) {
        history.prepare(now);
        return kept(now.change(what, value));
    }

    // ---- what there is

    public int disc(int blind, int column, int row, int what) {
        Blind there = now.blindAt(blind);
        if (there == null || !there.hasDisc(column, row)) {
            return INVALID_ARGUMENT;
        }
        switch (what) {
            case 0: return there.bright.at(column, row);
            case 1: return there.stuck.at(column, row);
            case 2: return there.wearAt(column, row);
            case 3: return there.wanted.at(column, row);
            default: return INVALID_ARGUMENT;
        }
    }

    public int blindOf(int blind, int what) {
        Blind there = now.blindAt(blind);
        if (there == null) {
            return INVALID_ARGUMENT;
        }
        switch (what) {
            case 0: return there.bright.size();
            case 1: return there.stuck.size();
            case 2: return there.bright.far(there.wanted.left, there.wanted.right);
            case 3: return there.flips;
            case 4:
            case 5:
            case 6: return readOf(there, what);
            case 7: return now.wordsToShow(there);
            case 8: return there.columns;
            default: return INVALID_ARGUMENT;
        }
    }

    public int wordOf(int word, int what) {
        Words words = now.words;
        if (!words.has(word)) {
            return INVALID_ARGUMENT;
        }
        switch (what) {
            case 0: return words.letters[word];
            case 1: return lettersIn(words.letters[word]);
            case 2: return words.widths[word];
            case 3: return words.dotsOf(word);
            case 4: return words.times[word];
            default: return INVALID_ARGUMENT;
        }
    }

    public int margin(int word, int blind, int shift) {
        Blind there = now.blindAt(blind);
        if (there == null || !now.words.stands(word, shift, there.columns)) {
            return INVALID_ARGUMENT;
        }
        return now.words.marginAt(word, shift, there, NONE) + MARGIN_BASE;
    }

    // ---- what would be

    public int would(int word, int blind, int what) {
        Blind there = now.blindAt(blind);
        if (there == null || !now.words.has(word) || what < 0 || what > 4) {
            return INVALID_ARGUMENT;
        }
        int shift = now.words.bestShift(word, there, NONE, now.needed);
        if (shift == NONE) {
            return NOT_POSSIBLE;
        }
        int place = placeOf(word, shift);
        long left = now.words.left[place];
        long right = now.words.right[place];
        switch (what) {
            case 0: return shift;
            case 1: return now.words.marginAt(word, shift, there, NONE);
            case 2: return there.flipsFor(left, right, 0);
            case 3: return there.flipsFor(left, right, now.life - 1);
            default: return there.stuckUnlike(left, right);
        }
    }

    public int closest(int blind, int what) {
        Blind there = now.blindAt(blind);
        if (there == null || what < 0 || what > 2) {
            return INVALID_ARGUMENT;
        }
        int pair = now.words.closestPair(there.columns);
        if (pair == NONE) {
            return NOT_FOUND;
        }
        int lower = pair / MOST_WORDS;
        int higher = pair % MOST_WORDS;
        switch (what) {
            case 0: return lower;
            case 1: return higher;
            default: return now.words.pairFar(lower, higher, there.columns);
        }
    }

    public int bestRepair(int word, int blind, int what) {
        Blind there = now.blindAt(blind);
        if (there == null || !now.words.has(word) || what < 0 || what > 1) {
            return INVALID_ARGUMENT;
        }
        if (now.words.shiftsOn(word, there.columns) == 0) {
            return NOT_POSSIBLE;
        }
        int column = now.words.bestColumn(word, there);
        if (what == 0) {
            return column;
        }
        return now.words.greatestMargin(word, there, column) + MARGIN_BASE;
    }

    public int count(int what) {
        switch (what) {
            case 0: return now.words.size;
            case 1: return now.wide.flips + now.narrow.flips;
            case 2: return now.wornOut;
            case 3: return now.repairs;
            case 4: return now.shows;
            case 5: return history.size;
            case 6: return text.length;
            case 20: return now.needed;
            case 21: return now.life;
            default: return INVALID_ARGUMENT;
        }
    }

    public int undo() {
        return history.restore(now) ? history.size : NOT_POSSIBLE;
    }

    // ---- texts

    public int type(int character) {
        if (character < FIRST_SIGN || character > LAST_SIGN) {
            return INVALID_ARGUMENT;
        }
        return text.add((char) character) ? text.length : LIMIT_REACHED;
    }

    public int clearText() {
        int length = text.length;
        text.length = 0;
        return length;
    }

    public int fault(int what) {
        if (what < 0 || what > 2) {
            return INVALID_ARGUMENT;
        }
        tryText();
        if (faultReason == 0) {
            return NOT_FOUND;
        }
        switch (what) {
            case 0: return faultPlace;
            case 1: return faultReason;
            default: return faultCause;
        }
    }

    public int play() {
        int orders = tryText();
        if (faultReason != 0) {
            return NOT_POSSIBLE;
        }
        history.prepare(now);
        now.copyFrom(trial);
        return kept(orders);
    }

    /** Keeps the state that was prepared, if the answer of a change is no error. */
    private int kept(int answer) {
        if (answer >= 0) {
            history.keep();
        }
        return answer;
    }

    /** What a blind is read as: its word (4), the shift (5) or how far that is (6). */
    private int readOf(Blind there, int what) {
        int place = now.words.readAt(there);
        if (place == NONE) {
            return NOT_FOUND;
        }
        switch (what) {
            case 4: return place / MOST_SHIFTS;
            case 5: return place % MOST_SHIFTS;
            default: return there.bright.far(now.words.left[place], now.words.right[place]);
        }
    }

    /** Does the orders on the trial state up to the first fault, and returns how many it did. */
    private int tryText() {
        trial.copyFrom(now);
        faultReason = 0;
        int place = 0;
        int orders = 0;
        while (orders < MOST_SIGNS && place < text.length) {
            order.read(text, place);
            int answer = order.whole ? trial.obey(order) : order.length;
            if (!order.whole || answer < 0) {
                faultPlace = place;
                faultReason = order.whole ? NOT_TO_BE_DONE : NOT_OF_THE_FORM;
                faultCause = answer;
                return orders;
            }
            place += order.length;
            orders++;
        }
        return orders;
    }

    /** The dots of a column, if it is in the left half, at their bits there. */
    private static long leftBits(int column, long dots) {
        return column >= 0 && column < HALF_COLUMNS ? dots << (column * ROWS) : 0;
    }

    /** The dots of a column, if it is in the right half, at their bits there. */
    private static long rightBits(int column, long dots) {
        int there = column - HALF_COLUMNS;
        return there >= 0 && there < HALF_COLUMNS ? dots << (there * ROWS) : 0;
    }

    /** The dots of a column of a letter, the highest row at the lowest bit. */
    private static long letterDots(int letter, int column) {
        if (letter < 1 || letter > LAST_LETTER) {
            return 0;
        }
        long dots = 0;
        for (int row = 0; row < ROWS; row++) {
            int digit = LETTERS[letter] >> (4 * (ROWS - 1 - row));
            int dot = (digit >> (LETTER_COLUMNS - 1 - column)) & 1;
            dots |= (long) dot << row;
        }
        return dots;
    }

    private static int lettersIn(int letters) {
        int number = 0;
        while (number < MOST_LETTERS && (letters >>> (number * LETTER_BITS)) != 0) {
            number++;
        }
        return number;
    }

    private static boolean areLetters(int letters) {
        int rest = letters;
        for (int i = 0; i < MOST_LETTERS && (rest & LETTER_MASK) != 0; i++) {
            if ((rest & LETTER_MASK) > LAST_LETTER) {
                return false;
            }
            rest >>>= LETTER_BITS;
        }
        return letters != 0 && rest == 0;
    }

    /** Where the picture of a word at a shift stands among all pictures. */
    private static int placeOf(int word, int shift) {
        return word * MOST_SHIFTS + shift;
    }

    /** A set of dots of a blind: five bits a column, the highest row at the lowest bit. */
    private static final class Dots {
        long left;
        long right;

        int at(int column, int row) {
            long dot = 1L << row;
            long there = (left & leftBits(column, dot)) | (right & rightBits(column, dot));
            return there == 0 ? 0 : 1;
        }

        void put(int column, int row, boolean in) {
            long dot = 1L << row;
            long leftDot = leftBits(column, dot);
            long rightDot = rightBits(column, dot);
            left = in ? left | leftDot : left & ~leftDot;
            right = in ? right | rightDot : right & ~rightDot;
        }

        int size() {
            return Long.bitCount(left) + Long.bitCount(right);
        }

        int far(long otherLeft, long otherRight) {
            return Long.bitCount(left ^ otherLeft) + Long.bitCount(right ^ otherRight);
        }

        void copyFrom(Dots other) {
            left = other.left;
            right = other.right;
        }
    }

    private static final class Blind {
        final int columns;
        final Dots bright;
        final Dots stuck;
        final Dots wanted;
        /** Used anew by each call that flips, or tells of flips. */
        final Dots toFlip;
        /** Five numbers a column, as the discs stand in it. */
        final int[] wear;
        int flips;

        Blind(int columns) {
            this.columns = columns;
            bright = new Dots();
            stuck = new Dots();
            wanted = new Dots();
            toFlip = new Dots();
            wear = new int[WIDE_COLUMNS * ROWS];
        }

        void copyFrom(Blind other) {
            bright.copyFrom(other.bright);
            stuck.copyFrom(other.stuck);
            wanted.copyFrom(other.wanted);
            System.arraycopy(other.wear, 0, wear, 0, wear.length);
            flips = other.flips;
        }

        boolean hasColumn(int column) {
            return column >= 0 && column < columns;
        }

        boolean hasDisc(int column, int row) {
            return hasColumn(column) && row >= 0 && row < ROWS;
        }

        int wearAt(int column, int row) {
            return hasDisc(column, row) ? wear[column * ROWS + row] : 0;
        }

        /** Marks the discs that a picture would flip. */
        void markFlips(long left, long right) {
            toFlip.left = (bright.left ^ left) & ~stuck.left;
            toFlip.right = (bright.right ^ right) & ~stuck.right;
        }

        /**
         * Flips to a picture; returns how many discs were stuck by wear. What a flip does hangs on its
         * own disc alone, so all can be flipped at once before any of them is stuck.
         */
        int want(long left, long right, int life) {
            wanted.left = left;
            wanted.right = right;
            markFlips(left, right);
            bright.left ^= toFlip.left;
            bright.right ^= toFlip.right;
            flips += toFlip.size();
            int wornOut = 0;
            for (int place = 0; place < columns * ROWS && place < wear.length; place++) {
                int column = place / ROWS;
                int row = place % ROWS;
                int flip = toFlip.at(column, row);
                wear[place] += flip;
                if (flip == 1 && wear[place] >= life) {
                    stuck.put(column, row, true);
                    wornOut++;
                }
            }
            return wornOut;
        }

        /** How many discs with at least some wear a picture would flip. */
        int flipsFor(long left, long right, int leastWear) {
            markFlips(left, right);
            int number = 0;
            for (int place = 0; place < columns * ROWS && place < wear.length; place++) {
                if (wear[place] >= leastWear) {
                    number += toFlip.at(place / ROWS, place % ROWS);
                }
            }
            return number;
        }

        /** How many stuck discs are unlike a picture; only these stay unlike it. */
        int stuckUnlike(long left, long right) {
            return Long.bitCount((bright.left ^ left) & stuck.left)
                + Long.bitCount((bright.right ^ right) & stuck.right);
        }

        boolean hasStuckIn(int column) {
            return ((stuck.left & leftBits(column, WHOLE_COLUMN))
                | (stuck.right & rightBits(column, WHOLE_COLUMN))) != 0;
        }

        /** Makes a column new; returns how many of its discs were stuck. */
        int mend(int column) {
            int number = 0;
            for (int row = 0; row < ROWS && hasColumn(column); row++) {
                number += stuck.at(column, row);
                stuck.put(column, row, false);
                wear[column * ROWS + row] = 0;
            }
            return number;
        }
    }

    private static final class Words {
        int size;
        final int[] letters;
        final int[] widths;
        final int[] times;
        /** The halves of each word's picture at each shift; both blinds share them. */
        final long[] left;
        final long[] right;

        Words() {
            letters = new int[MOST_WORDS];
            widths = new int[MOST_WORDS];
            times = new int[MOST_WORDS];
            left = new long[MOST_WORDS * MOST_SHIFTS];
            right = new long[MOST_WORDS * MOST_SHIFTS];
        }

        void copyFrom(Words other) {
            size = other.size;
            System.arraycopy(other.letters, 0, letters, 0, MOST_WORDS);
            System.arraycopy(other.widths, 0, widths, 0, MOST_WORDS);
            System.arraycopy(other.times, 0, times, 0, MOST_WORDS);
            System.arraycopy(other.left, 0, left, 0, left.length);
            System.arraycopy(other.right, 0, right, 0, right.length);
        }

        boolean has(int word) {
            return word >= 0 && word < size;
        }

        int find(int wantedLetters) {
            for (int word = 0; word < size; word++) {
                if (letters[word] == wantedLetters) {
                    return word;
                }
            }
            return NONE;
        }

        void add(int newLetters) {
            if (size >= MOST_WORDS) {
                return;
            }
            int number = lettersIn(newLetters);
            letters[size] = newLetters;
            widths[size] = number * LETTER_STEP - 1;
            times[size] = 0;
            for (int shift = 0; shift < MOST_SHIFTS; shift++) {
                draw(placeOf(size, shift), shift, newLetters, number);
            }
            size++;
        }

        void draw(int place, int shift, int newLetters, int number) {
            left[place] = 0;
            right[place] = 0;
            for (int i = 0; i < number; i++) {
                int letter = (newLetters >>> ((number - 1 - i) * LETTER_BITS)) & LETTER_MASK;
                for (int column = 0; column < LETTER_COLUMNS; column++) {
                    long dots = letterDots(letter, column);
                    int there = shift + i * LETTER_STEP + column;
                    left[place] |= leftBits(there, dots);
                    right[place] |= rightBits(there, dots);
                }
            }
        }

        void remove(int word) {
            if (!has(word)) {
                return;
            }
            size--;
            int behind = size - word;
            System.arraycopy(letters, word + 1, letters, word, behind);
            System.arraycopy(widths, word + 1, widths, word, behind);
            System.arraycopy(times, word + 1, times, word, behind);
            int from = placeOf(word + 1, 0);
            int to = placeOf(word, 0);
            System.arraycopy(left, from, left, to, behind * MOST_SHIFTS);
            System.arraycopy(right, from, right, to, behind * MOST_SHIFTS);
        }

        int dotsOf(int word) {
            int place = placeOf(word, 0);
            return has(word) ? Long.bitCount(left[place]) + Long.bitCount(right[place]) : 0;
        }

        /** At how many shifts a word can stand on so many columns. */
        int shiftsOn(int word, int columns) {
            if (word < 0 || word >= size || widths[word] > columns) {
                return 0;
            }
            return columns - widths[word] + 1;
        }

        boolean stands(int word, int shift, int columns) {
            return shift >= 0 && shift < shiftsOn(word, columns);
        }

        /** The margin of a word at a shift, as if a column (or NONE) had been repaired. */
        int marginAt(int word, int shift, Blind blind, int repaired) {
            if (shift < 0 || shift >= shiftsOn(word, blind.columns)) {
                return 0;
            }
            long stuckLeft = blind.stuck.left & ~leftBits(repaired, WHOLE_COLUMN);
            long stuckRight = blind.stuck.right & ~rightBits(repaired, WHOLE_COLUMN);
            int own = placeOf(word, shift);
            long seenLeft = (left[own] & ~stuckLeft) | (blind.bright.left & stuckLeft);
            long seenRight = (right[own] & ~stuckRight) | (blind.bright.right & stuckRight);
            int least = FAR_OFF;
            for (int other = 0; other < size; other++) {
                int shifts = other == word ? 0 : shiftsOn(other, blind.columns);
                int first = placeOf(other, 0);
                for (int place = first; place < first + shifts; place++) {
                    int far = Long.bitCount(seenLeft ^ left[place]) + Long.bitCount(seenRight ^ right[place]);
                    least = Math.min(least, far);
                }
            }
            if (least == FAR_OFF) {
                return MARGIN_ALONE;
            }
            return least - Long.bitCount(seenLeft ^ left[own]) - Long.bitCount(seenRight ^ right[own]);
        }

        /** The lowest shift of those with the greatest margin, or NONE if no margin is at least so great. */
        int bestShift(int word, Blind blind, int repaired, int needed) {
            int shifts = shiftsOn(word, blind.columns);
            int best = NONE;
            int greatest = needed - 1;
            for (int shift = 0; shift < shifts; shift++) {
                int margin = marginAt(word, shift, blind, repaired);
                if (margin > greatest) {
                    best = shift;
                    greatest = margin;
                }
            }
            return best;
        }

        int greatestMargin(int word, Blind blind, int repaired) {
            int shift = bestShift(word, blind, repaired, -FAR_OFF);
            return marginAt(word, shift, blind, repaired);
        }

        /** The lowest column of those whose repair makes the greatest margin greatest. */
        int bestColumn(int word, Blind blind) {
            int asItIs = greatestMargin(word, blind, NONE);
            int best = NONE;
            int greatest = 0;
            for (int column = 0; column < blind.columns; column++) {
                int margin = blind.hasStuckIn(column) ? greatestMargin(word, blind, column) : asItIs;
                if (best == NONE || margin > greatest) {
                    best = column;
                    greatest = margin;
                }
            }
            return best;
        }

        /** The place of the picture that a blind is read as, or NONE. */
        int readAt(Blind blind) {
            int best = NONE;
            int least = FAR_OFF;
            for (int word = 0; word < size; word++) {
                int first = placeOf(word, 0);
                int end = first + shiftsOn(word, blind.columns);
                for (int place = first; place < end; place++) {
                    int far = blind.bright.far(left[place], right[place]);
                    if (far < least) {
                        best = place;
                        least = far;
                    }
                }
            }
            return best;
        }

        /** How far the pictures of two words are apart where they are nearest; FAR_OFF if one cannot stand. */
        int pairFar(int lower, int higher, int columns) {
            int lowerEnd = placeOf(lower, shiftsOn(lower, columns));
            int higherEnd = placeOf(higher, shiftsOn(higher, columns));
            int least = FAR_OFF;
            for (int one = placeOf(lower, 0); one < lowerEnd; one++) {
                for (int other = placeOf(higher, 0); other < higherEnd; other++) {
                    int far = Long.bitCount(left[one] ^ left[other]) + Long.bitCount(right[one] ^ right[other]);
                    least = Math.min(least, far);
                }
            }
            return least;
        }

        /** The two words that are most alike, as MOST_WORDS times the lower one plus the higher one, or NONE. */
        int closestPair(int columns) {
            int best = NONE;
            int least = FAR_OFF;
            for (int lower = 0; lower < size; lower++) {
                for (int higher = lower + 1; higher < size; higher++) {
                    int far = pairFar(lower, higher, columns);
                    if (far < least) {
                        best = lower * MOST_WORDS + higher;
                        least = far;
                    }
                }
            }
            return best;
        }
    }

    /** All that a change records. */
    private static final class State {
        final Words words;
        final Blind wide;
        final Blind narrow;
        /** Setting 0: the least margin with which a word can be shown. */
        int needed;
        /** Setting 1: the wear at which a disc is stuck. */
        int life;
        int wornOut;
        int repairs;
        int shows;

        State() {
            words = new Words();
            wide = new Blind(WIDE_COLUMNS);
            narrow = new Blind(NARROW_COLUMNS);
            needed = 2;
            life = 20;
        }

        void copyFrom(State other) {
            words.copyFrom(other.words);
            wide.copyFrom(other.wide);
            narrow.copyFrom(other.narrow);
            needed = other.needed;
            life = other.life;
            wornOut = other.wornOut;
            repairs = other.repairs;
            shows = other.shows;
        }

        /** The blind with a number, or null. */
        Blind blindAt(int blind) {
            if (blind == 0) {
                return wide;
            }
            return blind == 1 ? narrow : null;
        }

        int addWord(int letters) {
            if (!areLetters(letters)) {
                return INVALID_ARGUMENT;
            }
            if (words.find(letters) != NONE) {
                return NOT_POSSIBLE;
            }
            if (words.size >= MOST_WORDS) {
                return LIMIT_REACHED;
            }
            words.add(letters);
            return words.size - 1;
        }

        int takeWord(int word) {
            if (!words.has(word)) {
                return INVALID_ARGUMENT;
            }
            words.remove(word);
            return words.size;
        }

        int wordsToShow(Blind there) {
            int set = 0;
            for (int word = 0; word < words.size; word++) {
                if (words.bestShift(word, there, NONE, needed) != NONE) {
                    set |= 1 << word;
                }
            }
            return set;
        }

        int showWord(int word, int blind) {
            Blind there = blindAt(blind);
            if (there == null || !words.has(word)) {
                return INVALID_ARGUMENT;
            }
            int shift = words.bestShift(word, there, NONE, needed);
            if (shift == NONE) {
                return NOT_POSSIBLE;
            }
            int place = placeOf(word, shift);
            wornOut += there.want(words.left[place], words.right[place], life);
            words.times[word]++;
            shows++;
            return shift;
        }

        int darken(int blind) {
            Blind there = blindAt(blind);
            if (there == null) {
                return INVALID_ARGUMENT;
            }
            wornOut += there.want(0, 0, life);
            return there.bright.size();
        }

        int stickDisc(int blind, int column, int row, int state) {
            Blind there = blindAt(blind);
            if (there == null || !there.hasDisc(column, row) || state < 0 || state > 2) {
                return INVALID_ARGUMENT;
            }
            there.stuck.put(column, row, state != 2);
            if (state != 2) {
                there.bright.put(column, row, state == 1);
            }
            return there.stuck.size();
        }

        int repairColumn(int blind, int column) {
            Blind there = blindAt(blind);
            if (there == null || !there.hasColumn(column)) {
                return INVALID_ARGUMENT;
            }
            repairs++;
            return there.mend(column);
        }

        int change(int what, int value) {
            if (what == 0 && value >= 1 && value <= 9) {
                int old = needed;
                needed = value;
                return old;
            }
            if (what == 1 && value >= 2 && value <= 99) {
                int old = life;
                life = value;
                return old;
            }
            return INVALID_ARGUMENT;
        }

        int obey(Order order) {
            int[] numbers = order.numbers;
            switch (order.kind) {
                case 'w': return addWord(order.letters);
                case 's': return showWord(numbers[0], numbers[1]);
                case 'b': return darken(numbers[0]);
                case 'k': return stickDisc(numbers[0], numbers[1], numbers[2], numbers[3]);
                case 'r': return repairColumn(numbers[0], numbers[1]);
                default: return INVALID_ARGUMENT;
            }
        }
    }

    /** The states before the latest changes, the oldest one first, and one place more to prepare in. */
    private static final class History {
        final State[] states;
        int size;

        History() {
            states = new State[MOST_STATES + 1];
            for (int i = 0; i < states.length; i++) {
                states[i] = new State();
            }
        }

        /** Copies a state behind the others; it belongs to them only when it is kept. */
        void prepare(State state) {
            State next = states[Math.min(size, MOST_STATES)];
            if (next != null) {
                next.copyFrom(state);
            }
        }

        void keep() {
            size++;
            if (size > MOST_STATES) {
                dropOldest();
            }
        }

        void dropOldest() {
            State oldest = states[0];
            for (int i = 0; i < MOST_STATES; i++) {
                states[i] = states[i + 1];
            }
            states[MOST_STATES] = oldest;
            size--;
        }

        /** Gives a state back the latest one, and forgets that; false if there is none. */
        boolean restore(State state) {
            if (size <= 0 || size > MOST_STATES) {
                return false;
            }
            size--;
            State latest = states[size];
            if (latest != null) {
                state.copyFrom(latest);
            }
            return true;
        }
    }

    private static final class Text {
        final char[] signs;
        int length;

        Text() {
            signs = new char[MOST_SIGNS];
        }

        boolean add(char sign) {
            if (length < 0 || length >= MOST_SIGNS) {
                return false;
            }
            signs[length] = sign;
            length++;
            return true;
        }

        /** The sign at a place, or 0, which is no sign of a text, behind its end. */
        int at(int place) {
            return place >= 0 && place < length && place < MOST_SIGNS ? signs[place] : 0;
        }
    }

    /** One order of a text, as far as it is of the right form. */
    private static final class Order {
        static final int MOST_NUMBERS = 4;

        int kind;
        int letters;
        final int[] numbers;
        /** How many of its signs are of the form. */
        int length;
        boolean whole;

        Order() {
            numbers = new int[MOST_NUMBERS];
        }

        void read(Text text, int start) {
            kind = text.at(start);
            length = 0;
            whole = false;
            int needed = numbersOf(kind);
            if (needed == NONE) {
                return;
            }
            length = 1;
            boolean filled = kind == 'w' ? readLetters(text, start) : readNumbers(text, start, needed);
            if (filled && text.at(start + length) == ';') {
                length++;
                whole = true;
            }
        }

        /** How many numbers an order of a kind has; NONE if there is no such kind. */
        static int numbersOf(int kind) {
            switch (kind) {
                case 'w': return 0;
                case 'b': return 1;
                case 's':
                case 'r': return 2;
                case 'k': return MOST_NUMBERS;
                default: return NONE;
            }
        }

        boolean readLetters(Text text, int start) {
            letters = 0;
            int number = 0;
            while (number < MOST_LETTERS && isLetter(text.at(start + length))) {
                letters = (letters << LETTER_BITS) | (text.at(start + length) - 'a' + 1);
                length++;
                number++;
            }
            return number > 0;
        }

        boolean readNumbers(Text text, int start, int needed) {
            for (int i = 0; i < needed && i < MOST_NUMBERS; i++) {
                if (i > 0) {
                    if (text.at(start + length) != ',') {
                        return false;
                    }
                    length++;
                }
                if (!isDigit(text.at(start + length))) {
                    return false;
                }
                numbers[i] = text.at(start + length) - '0';
                length++;
                if (isDigit(text.at(start + length))) {
                    numbers[i] = numbers[i] * 10 + text.at(start + length) - '0';
                    length++;
                }
            }
            return true;
        }

        static boolean isLetter(int sign) {
            return sign >= 'a' && sign <= 'p';
        }

        static boolean isDigit(int sign) {
            return sign >= '0' && sign <= '9';
        }
    }
}
