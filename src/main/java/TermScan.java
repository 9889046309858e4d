/**
 * Looks for the terms of a trade in a running text: finds them with their bent forms, chooses those
 * that together weigh most, and writes the text anew with the preferred terms.
 */
public final class TermScan {
    public static final int NONE = -1, UNKNOWN = -1000000001, OUTSIDE = -1000000002, NOT = -1000000003, FULL = -1000000004;

    private static final int BLANK = 32;
    private static final int POINT = 46;
    private static final int MOST_SIGN = 255;
    private static final int MOST_WEIGHT = 9;
    private static final int MOST_LOTS = 30;
    private static final int MOST_SEED = 999999;
    private static final int IMAGES = 2;

    private final Slip slip;
    private final Lexicon lexicon;
    private final Lexicon[] images;
    private final Text text;
    private final Scan scan;
    private final Mended mended;
    private final Lots lots;

    public TermScan() {
        slip = new Slip();
        lexicon = new Lexicon();
        images = new Lexicon[IMAGES];
        for (int i = 0; i < IMAGES; i++) {
            images[i] = new Lexicon();
        }
        text = new Text();
        scan = new Scan(lexicon, text);
        mended = new Mended(lexicon, text, scan);
        lots = new Lots();
    }

    // ---- terms, endings

    public int spell(int sign) {
        if (!Letters.isLetter(sign) && sign != BLANK) {
            return OUTSIDE;
        }
        return slip.add(sign) ? slip.size : FULL;
    }

    public int term(int weight, int bent) {
        if (!isWeight(weight) || !isBent(bent)) {
            return OUTSIDE;
        }
        int parts = slip.takeWords();
        if (parts == 0 || lexicon.hasTerm(slip.words, parts)) {
            return NOT;
        }
        int number = lexicon.addTerm(slip.words, parts, weight, bent);
        if (number == NONE) {
            return FULL;
        }
        termsChanged();
        return number;
    }

    public int ending() {
        int parts = slip.takeWords();
        long letters = slip.words[0];
        if (parts != 1 || Letters.sizeOf(letters) > Lexicon.MOST_ENDING_LETTERS || lexicon.hasEnding(letters)) {
            return NOT;
        }
        int number = lexicon.addEnding(letters);
        if (number == NONE) {
            return FULL;
        }
        termsChanged();
        return number;
    }

    public int dropTerm(int t) {
        if (!lexicon.isTerm(t)) {
            return UNKNOWN;
        }
        if (lexicon.isPreferred(t)) {
            return NOT;
        }
        lexicon.removeTerm(t);
        termsChanged();
        return lexicon.termCount;
    }

    public int dropEnding(int e) {
        if (!lexicon.isEnding(e)) {
            return UNKNOWN;
        }
        lexicon.removeEnding(e);
        termsChanged();
        return lexicon.endingCount;
    }

    public int forbid(int t, int u) {
        if (!lexicon.isTerm(t) || !lexicon.isTerm(u) || t == u) {
            return UNKNOWN;
        }
        if (lexicon.isPreferred(t) || lexicon.isForbidden(u)) {
            return NOT;
        }
        lexicon.preferred[t] = u;
        termsChanged();
        return Integer.bitCount(lexicon.forbiddenSet());
    }

    public int allow(int t) {
        if (!lexicon.isTerm(t)) {
            return UNKNOWN;
        }
        if (!lexicon.isForbidden(t)) {
            return NOT;
        }
        lexicon.preferred[t] = NONE;
        termsChanged();
        return Integer.bitCount(lexicon.forbiddenSet());
    }

    public int change(int t, int what, int v) {
        if (!lexicon.isTerm(t)) {
            return UNKNOWN;
        }
        if (what == 0 && isWeight(v)) {
            int was = lexicon.weights[t];
            lexicon.weights[t] = v;
            termsChanged();
            return was;
        }
        if (what == 1 && isBent(v)) {
            int was = lexicon.bents[t];
            lexicon.bents[t] = v;
            termsChanged();
            return was;
        }
        return OUTSIDE;
    }

    public int termOf(int t, int what) {
        if (!lexicon.isTerm(t)) {
            return UNKNOWN;
        }
        switch (what) {
            case 0: return lexicon.sizes[t];
            case 1: return lexicon.weights[t];
            case 2: return lexicon.bents[t];
            case 3: return lexicon.preferred[t];
            case 4: return settled().timesFound(t);
            case 5: return settled().timesChosen(t);
            default: return OUTSIDE;
        }
    }

    public int letter(int t, int k, int i) {
        boolean known = k == NONE ? lexicon.isEnding(t) : lexicon.isTerm(t);
        if (!known) {
            return UNKNOWN;
        }
        if (i < 0) {
            return OUTSIDE;
        }
        if (k == NONE) {
            return Letters.at(lexicon.endings[t], i);
        }
        if (k < 0 || k >= lexicon.sizes[t]) {
            return OUTSIDE;
        }
        return Letters.at(lexicon.wordOf(t, k), i);
    }

    // ---- the text

    public int read(int sign) {
        if (sign < 0 || sign > MOST_SIGN) {
            return OUTSIDE;
        }
        if (Letters.isLetter(sign) && !text.hasRoom()) {
            return FULL;
        }
        text.take(sign);
        textChanged();
        return text.count;
    }

    public int wipe() {
        int had = text.count;
        text.clear();
        scan.forget();
        textChanged();
        return had;
    }

    public int drift(int n, int seed) {
        if (n < 1 || n > MOST_LOTS || seed < 1 || seed > MOST_SEED) {
            return OUTSIDE;
        }
        lots.start(seed);
        boolean goesOn = true;
        for (int i = 0; i < n && goesOn; i++) {
            goesOn = takeLot();
        }
        textChanged();
        return text.count;
    }

    public int word(int i, int what) {
        if (!text.isWord(i)) {
            return UNKNOWN;
        }
        switch (what) {
            case 0: return Letters.sizeOf(text.words[i]);
            case 1: return text.sentences[i];
            case 2: return text.tooLong[i] ? 1 : 0;
            case 3: return settled().reach(i);
            case 4: return settled().termsOver(i);
            case 5: return settled().chosenOver[i];
            default: return OUTSIDE;
        }
    }

    public int told(int what) {
        switch (what) {
            case 0: return lexicon.termCount;
            case 1: return lexicon.endingCount;
            case 2: return slip.size;
            case 3: return text.count;
            case 4: return text.sentencesEnded;
            case 5: return Letters.sizeOf(text.coming);
            case 6: return settled().foundCount();
            case 7: return settled().chosenCount;
            case 8: return settled().worths[0];
            case 9: return settled().wordsChosen();
            case 10: return settled().insteadCount();
            case 11: return written().size;
            case 12: return lexicon.forbiddenSet();
            default: return OUTSIDE;
        }
    }

    public int found(int k, int what) {
        if (k < 0 || what < 0 || what > 3) {
            return OUTSIDE;
        }
        int i = settled().foundAt(k);
        int t = scan.foundTerm(k);
        if (i == NONE || t == NONE) {
            return NONE;
        }
        switch (what) {
            case 0: return i;
            case 1: return t;
            case 2: return lexicon.worthOf(t);
            default: return scan.isChosen(i, t) ? 1 : 0;
        }
    }

    public int chosen(int k, int what) {
        if (k < 0 || what < 0 || what > 3) {
            return OUTSIDE;
        }
        if (k >= settled().chosenCount) {
            return NONE;
        }
        int t = scan.chosenTerms[k];
        switch (what) {
            case 0: return scan.chosenAt[k];
            case 1: return t;
            case 2: return lexicon.worthOf(t);
            default: return lexicon.preferred[t];
        }
    }

    public int longest(int i) {
        if (!text.isWord(i)) {
            return UNKNOWN;
        }
        return settled().longestAt(i);
    }

    public int sign(int i) {
        if (i < 0) {
            return OUTSIDE;
        }
        return i < written().size ? mended.signs[i] : NONE;
    }

    public int same(int i, int j) {
        if (!text.isWord(i) || !text.isWord(j) || i == j) {
            return UNKNOWN;
        }
        boolean alike = text.words[i] == text.words[j] && !text.tooLong[i] && !text.tooLong[j];
        return alike ? 1 : 0;
    }

    // ---- images

    public int keep(int i) {
        Lexicon image = imageOf(i);
        if (image == null) {
            return UNKNOWN;
        }
        image.copyFrom(lexicon);
        image.kept = true;
        return lexicon.termCount;
    }

    public int goBack(int i) {
        Lexicon image = imageOf(i);
        if (image == null) {
            return UNKNOWN;
        }
        if (!image.kept) {
            return NOT;
        }
        lexicon.copyFrom(image);
        termsChanged();
        return lexicon.termCount;
    }

    // ---- what the calls share

    private static boolean isWeight(int v) {
        return v >= 1 && v <= MOST_WEIGHT;
    }

    private static boolean isBent(int v) {
        return v == 0 || v == 1;
    }

    /** null: there is no such IMAGE. */
    private Lexicon imageOf(int i) {
        return i >= 0 && i < IMAGES ? images[i] : null;
    }

    private void termsChanged() {
        scan.forget();
        mended.forget();
    }

    private void textChanged() {
        scan.unsettle();
        mended.forget();
    }

    private Scan settled() {
        scan.settle();
        return scan;
    }

    private Mended written() {
        scan.settle();
        mended.write();
        return mended;
    }

    /** One lot of a drift; answers whether the drift goes on. */
    private boolean takeLot() {
        if (lots.below(8) == 0) {
            text.take(POINT);
            return true;
        }
        if (lexicon.termCount == 0) {
            return true;
        }
        if (!text.hasRoom()) {
            return false;
        }
        int t = lots.below(lexicon.termCount);
        text.takeLetters(lexicon.wordOf(t, lots.below(lexicon.sizes[t])));
        if (lots.below(3) == 0 && lexicon.endingCount > 0) {
            text.takeLetters(lexicon.endings[lots.below(lexicon.endingCount)]);
        }
        text.take(BLANK);
        return true;
    }

    /**
     * A WORD is one number, five bits a letter, the first letter lowest: two WORDS are the same if
     * their numbers are, and no call has to make anything. 0 is no WORD.
     */
    private static final class Letters {
        static final int MOST = 12;
        private static final int BITS = 5;
        private static final int MASK = 31;
        private static final int BEFORE_FIRST = 96;

        static boolean isLetter(int sign) {
            return sign >= 97 && sign <= 122;
        }

        static int sizeOf(long letters) {
            for (int size = 0; size < MOST; size++) {
                if (letters >>> (BITS * size) == 0) {
                    return size;
                }
            }
            return MOST;
        }

        static int at(long letters, int place) {
            if (place < 0 || place >= MOST) {
                return NONE;
            }
            int letter = (int) (letters >>> (BITS * place)) & MASK;
            return letter == 0 ? NONE : letter + BEFORE_FIRST;
        }

        static long with(long letters, int place, int sign) {
            if (place < 0 || place >= MOST) {
                return letters;
            }
            return letters | (long) (sign - BEFORE_FIRST) << (BITS * place);
        }

        /** The first letters of a WORD, if the others are the ENDING; 0: they are not. */
        static long without(long letters, long ending, int left) {
            if (left <= 0 || left >= MOST || letters >>> (BITS * left) != ending) {
                return 0;
            }
            return letters & ((1L << (BITS * left)) - 1);
        }
    }

    /** THE SLIP. */
    private static final class Slip {
        private static final int MOST = 50;

        private final int[] signs;
        int size;
        /** The WORDS that were taken from it last. */
        final long[] words;

        Slip() {
            signs = new int[MOST];
            words = new long[Lexicon.MOST_WORDS];
        }

        boolean add(int sign) {
            if (size >= MOST) {
                return false;
            }
            signs[size] = sign;
            size++;
            return true;
        }

        /** Empties THE SLIP: how many WORDS it had; 0: they could not be those of a TERM. */
        int takeWords() {
            int parts = 0;
            int letters = 0;
            boolean fits = true;
            for (int i = 0; i < size; i++) {
                if (signs[i] == BLANK) {
                    letters = 0;
                } else {
                    parts = letters == 0 ? parts + 1 : parts;
                    letters++;
                    fits = fits && letters <= Letters.MOST && parts <= Lexicon.MOST_WORDS;
                    if (fits) {
                        long before = letters == 1 ? 0 : words[parts - 1];
                        words[parts - 1] = Letters.with(before, letters - 1, signs[i]);
                    }
                }
            }
            size = 0;
            return fits ? parts : 0;
        }
    }

    /** TERMS and ENDINGS. */
    private static final class Lexicon {
        static final int MOST_TERMS = 8;
        static final int MOST_WORDS = 4;
        static final int MOST_ENDINGS = 5;
        static final int MOST_ENDING_LETTERS = 4;

        int termCount;
        /** WORD k of TERM t stands at t * MOST_WORDS + k. */
        private final long[] words;
        final int[] sizes;
        final int[] weights;
        final int[] bents;
        final int[] preferred;
        int endingCount;
        final long[] endings;
        /** Of an IMAGE: whether it has kept anything yet. */
        boolean kept;

        Lexicon() {
            words = new long[MOST_TERMS * MOST_WORDS];
            sizes = new int[MOST_TERMS];
            weights = new int[MOST_TERMS];
            bents = new int[MOST_TERMS];
            preferred = new int[MOST_TERMS];
            endings = new long[MOST_ENDINGS];
        }

        void copyFrom(Lexicon other) {
            termCount = other.termCount;
            for (int t = 0; t < MOST_TERMS; t++) {
                copyTerm(other, t, t);
            }
            endingCount = other.endingCount;
            System.arraycopy(other.endings, 0, endings, 0, MOST_ENDINGS);
        }

        private void copyTerm(Lexicon other, int from, int to) {
            System.arraycopy(other.words, from * MOST_WORDS, words, to * MOST_WORDS, MOST_WORDS);
            sizes[to] = other.sizes[from];
            weights[to] = other.weights[from];
            bents[to] = other.bents[from];
            preferred[to] = other.preferred[from];
        }

        boolean isTerm(int t) {
            return t >= 0 && t < termCount;
        }

        boolean isEnding(int e) {
            return e >= 0 && e < endingCount;
        }

        boolean isForbidden(int t) {
            return preferred[t] != NONE;
        }

        boolean isPreferred(int t) {
            for (int other = 0; other < termCount; other++) {
                if (preferred[other] == t) {
                    return true;
                }
            }
            return false;
        }

        int forbiddenSet() {
            int set = 0;
            for (int t = 0; t < termCount; t++) {
                if (isForbidden(t)) {
                    set |= 1 << t;
                }
            }
            return set;
        }

        long wordOf(int t, int k) {
            return words[t * MOST_WORDS + k];
        }

        int worthOf(int t) {
            return weights[t] * sizes[t];
        }

        boolean hasTerm(long[] parts, int size) {
            for (int t = 0; t < termCount; t++) {
                if (sizes[t] == size && hasWords(t, parts)) {
                    return true;
                }
            }
            return false;
        }

        private boolean hasWords(int t, long[] parts) {
            for (int k = 0; k < sizes[t] && k < parts.length; k++) {
                if (wordOf(t, k) != parts[k]) {
                    return false;
                }
            }
            return true;
        }

        /** The number of the new TERM; NONE: there is no room. */
        int addTerm(long[] parts, int size, int weight, int bent) {
            if (termCount >= MOST_TERMS) {
                return NONE;
            }
            int t = termCount;
            for (int k = 0; k < size && k < MOST_WORDS; k++) {
                words[t * MOST_WORDS + k] = parts[k];
            }
            sizes[t] = size;
            weights[t] = weight;
            bents[t] = bent;
            preferred[t] = NONE;
            termCount++;
            return t;
        }

        void removeTerm(int gone) {
            for (int t = gone; t + 1 < termCount; t++) {
                copyTerm(this, t + 1, t);
            }
            termCount--;
            for (int t = 0; t < termCount; t++) {
                if (preferred[t] > gone) {
                    preferred[t]--;
                }
            }
        }

        boolean hasEnding(long letters) {
            for (int e = 0; e < endingCount; e++) {
                if (endings[e] == letters) {
                    return true;
                }
            }
            return false;
        }

        /** The number of the new ENDING; NONE: there is no room. */
        int addEnding(long letters) {
            if (endingCount >= MOST_ENDINGS) {
                return NONE;
            }
            endings[endingCount] = letters;
            endingCount++;
            return endingCount - 1;
        }

        void removeEnding(int gone) {
            for (int e = gone; e + 1 < endingCount; e++) {
                endings[e] = endings[e + 1];
            }
            endingCount--;
        }
    }

    /** THE TEXT. */
    private static final class Text {
        static final int MOST = 60;

        int count;
        final long[] words;
        final boolean[] tooLong;
        final int[] sentences;
        int sentencesEnded;
        long coming;
        private boolean comingTooLong;

        Text() {
            words = new long[MOST];
            tooLong = new boolean[MOST];
            sentences = new int[MOST];
        }

        boolean hasRoom() {
            return count < MOST;
        }

        boolean isWord(int i) {
            return i >= 0 && i < count;
        }

        void clear() {
            count = 0;
            sentencesEnded = 0;
            coming = 0;
            comingTooLong = false;
        }

        void take(int sign) {
            if (Letters.isLetter(sign)) {
                addLetter(sign);
            } else {
                endWord();
                if (sign == POINT) {
                    endSentence();
                }
            }
        }

        void takeLetters(long letters) {
            int size = Letters.sizeOf(letters);
            for (int i = 0; i < size; i++) {
                addLetter(Letters.at(letters, i));
            }
        }

        private void addLetter(int sign) {
            int size = Letters.sizeOf(coming);
            if (size < Letters.MOST) {
                coming = Letters.with(coming, size, sign);
            } else {
                comingTooLong = true;
            }
        }

        private void endWord() {
            if (coming == 0 || count >= MOST) {
                return;
            }
            words[count] = coming;
            tooLong[count] = comingTooLong;
            sentences[count] = sentencesEnded;
            count++;
            coming = 0;
            comingTooLong = false;
        }

        private void endSentence() {
            if (count > 0 && sentences[count - 1] == sentencesEnded) {
                sentencesEnded++;
            }
        }

        boolean beginsSentence(int i) {
            return i == 0 || sentences[i - 1] != sentences[i];
        }

        /** Whether WORD i is the last of a SENTENCE that has ended. */
        boolean endsSentence(int i) {
            boolean last = i + 1 == count || sentences[i + 1] != sentences[i];
            return last && sentences[i] < sentencesEnded;
        }
    }

    /** What is FOUND in THE TEXT, and what is CHOSEN of it. */
    private static final class Scan {
        /** The bit of the first WORD of each TERM, among bits t * MOST_WORDS + k. */
        private static final int FIRSTS = 0x11111111;

        private final Lexicon lexicon;
        private final Text text;
        /** How many WORDS of THE TEXT have been looked at since TERMS or ENDINGS changed. */
        private int looked;
        private boolean settled;
        /** The WORD that is looked at, as it is (place 0) and without the ENDINGS that it has. */
        private final long[] forms;
        private int formCount;
        /** Bit t * MOST_WORDS + k: what ends at the WORD MEETS the first k + 1 WORDS of TERM t. */
        private final int[] begun;
        /** The TERMS that are FOUND at the WORD, a SET. */
        private final int[] starts;
        /** The greatest WORTH, and how few make it, of what begins at the WORD or behind it. */
        final int[] worths;
        private final int[] fewest;
        /** The TERM that the best choice takes at the WORD, if the WORD is free; NONE. */
        private final int[] takes;
        int chosenCount;
        final int[] chosenAt;
        final int[] chosenTerms;
        final int[] chosenOver;

        Scan(Lexicon lexicon, Text text) {
            this.lexicon = lexicon;
            this.text = text;
            forms = new long[1 + Lexicon.MOST_ENDINGS];
            begun = new int[Text.MOST];
            starts = new int[Text.MOST];
            worths = new int[Text.MOST + 1];
            fewest = new int[Text.MOST + 1];
            takes = new int[Text.MOST];
            chosenAt = new int[Text.MOST];
            chosenTerms = new int[Text.MOST];
            chosenOver = new int[Text.MOST];
        }

        void forget() {
            looked = 0;
            settled = false;
        }

        void unsettle() {
            settled = false;
        }

        void settle() {
            if (settled) {
                return;
            }
            for (int i = looked; i < text.count; i++) {
                look(i);
            }
            looked = text.count;
            weigh();
            choose();
            settled = true;
        }

        // All TERMS are followed at once: a bit goes one place up for each further WORD that MEETS.
        private void look(int i) {
            int before = text.beginsSentence(i) ? 0 : begun[i - 1];
            begun[i] = (before << 1 | FIRSTS) & meets(i);
            starts[i] = 0;
            for (int t = 0; t < lexicon.termCount; t++) {
                int size = lexicon.sizes[t];
                int first = i - size + 1;
                if (first >= 0 && hasBegun(i, t, size)) {
                    starts[first] |= 1 << t;
                }
            }
        }

        private boolean hasBegun(int i, int t, int words) {
            return (begun[i] >>> (t * Lexicon.MOST_WORDS + words - 1) & 1) != 0;
        }

        private int meets(int i) {
            if (text.tooLong[i]) {
                return 0;
            }
            makeForms(text.words[i]);
            int set = 0;
            for (int t = 0; t < lexicon.termCount; t++) {
                int usable = lexicon.bents[t] == 1 ? formCount : 1;
                for (int k = 0; k < lexicon.sizes[t]; k++) {
                    if (isForm(lexicon.wordOf(t, k), usable)) {
                        set |= 1 << (t * Lexicon.MOST_WORDS + k);
                    }
                }
            }
            return set;
        }

        private void makeForms(long letters) {
            int size = Letters.sizeOf(letters);
            forms[0] = letters;
            formCount = 1;
            for (int e = 0; e < lexicon.endingCount && formCount < forms.length; e++) {
                long ending = lexicon.endings[e];
                long stem = Letters.without(letters, ending, size - Letters.sizeOf(ending));
                if (stem != 0) {
                    forms[formCount] = stem;
                    formCount++;
                }
            }
        }

        private boolean isForm(long letters, int usable) {
            for (int f = 0; f < usable && f < forms.length; f++) {
                if (forms[f] == letters) {
                    return true;
                }
            }
            return false;
        }

        private void weigh() {
            worths[text.count] = 0;
            fewest[text.count] = 0;
            for (int i = text.count - 1; i >= 0; i--) {
                weighFrom(i);
            }
        }

        // At a tie it is better to take than to pass, since what is taken here begins sooner.
        private void weighFrom(int i) {
            takes[i] = NONE;
            worths[i] = worths[i + 1];
            fewest[i] = fewest[i + 1];
            for (int t = 0; t < lexicon.termCount; t++) {
                int behind = i + lexicon.sizes[t];
                if (isFound(i, t) && behind <= text.count) {
                    int worth = lexicon.worthOf(t) + worths[behind];
                    int few = 1 + fewest[behind];
                    if (isBetter(i, t, worth, few)) {
                        takes[i] = t;
                        worths[i] = worth;
                        fewest[i] = few;
                    }
                }
            }
        }

        private boolean isBetter(int i, int t, int worth, int few) {
            if (worth != worths[i]) {
                return worth > worths[i];
            }
            if (few != fewest[i]) {
                return few < fewest[i];
            }
            return takes[i] == NONE || lexicon.sizes[t] > lexicon.sizes[takes[i]];
        }

        private void choose() {
            chosenCount = 0;
            int free = 0;
            for (int i = 0; i < text.count; i++) {
                if (i >= free && takes[i] != NONE) {
                    chosenAt[chosenCount] = i;
                    chosenTerms[chosenCount] = takes[i];
                    chosenCount++;
                    free = i + lexicon.sizes[takes[i]];
                }
                chosenOver[i] = i < free ? chosenCount - 1 : NONE;
            }
        }

        boolean isFound(int i, int t) {
            return (starts[i] >>> t & 1) != 0;
        }

        boolean isChosen(int i, int t) {
            int k = chosenOver[i];
            return k != NONE && chosenAt[k] == i && chosenTerms[k] == t;
        }

        int foundCount() {
            int sum = 0;
            for (int i = 0; i < text.count; i++) {
                sum += Integer.bitCount(starts[i]);
            }
            return sum;
        }

        /** The WORD where the k-th FOUND begins; NONE: not so many. */
        int foundAt(int k) {
            int ahead = 0;
            for (int i = 0; i < text.count; i++) {
                ahead += Integer.bitCount(starts[i]);
                if (k < ahead) {
                    return i;
                }
            }
            return NONE;
        }

        /** The TERM of the k-th FOUND; NONE: not so many. */
        int foundTerm(int k) {
            int ahead = 0;
            for (int i = 0; i < text.count; i++) {
                for (int t = 0; t < lexicon.termCount; t++) {
                    if (isFound(i, t)) {
                        if (ahead == k) {
                            return t;
                        }
                        ahead++;
                    }
                }
            }
            return NONE;
        }

        int timesFound(int t) {
            int times = 0;
            for (int i = 0; i < text.count; i++) {
                times += isFound(i, t) ? 1 : 0;
            }
            return times;
        }

        int timesChosen(int t) {
            int times = 0;
            for (int k = 0; k < chosenCount; k++) {
                times += chosenTerms[k] == t ? 1 : 0;
            }
            return times;
        }

        int wordsChosen() {
            int sum = 0;
            for (int k = 0; k < chosenCount; k++) {
                sum += lexicon.sizes[chosenTerms[k]];
            }
            return sum;
        }

        int insteadCount() {
            int sum = 0;
            for (int k = 0; k < chosenCount; k++) {
                sum += lexicon.isForbidden(chosenTerms[k]) ? 1 : 0;
            }
            return sum;
        }

        /** The TERM that is to be said instead of the CHOSEN one over WORD i; NONE. */
        int insteadOver(int i) {
            int k = chosenOver[i];
            return k == NONE ? NONE : lexicon.preferred[chosenTerms[k]];
        }

        int reach(int i) {
            for (int words = Lexicon.MOST_WORDS; words > 0; words--) {
                for (int t = 0; t < lexicon.termCount; t++) {
                    if (hasBegun(i, t, words)) {
                        return words;
                    }
                }
            }
            return 0;
        }

        int termsOver(int i) {
            int set = 0;
            for (int t = 0; t < lexicon.termCount; t++) {
                for (int back = 0; back < lexicon.sizes[t] && back <= i; back++) {
                    if (isFound(i - back, t)) {
                        set |= 1 << t;
                    }
                }
            }
            return set;
        }

        int longestAt(int i) {
            int best = NONE;
            for (int t = 0; t < lexicon.termCount; t++) {
                if (isFound(i, t) && (best == NONE || isLonger(t, best))) {
                    best = t;
                }
            }
            return best;
        }

        private boolean isLonger(int t, int other) {
            if (lexicon.sizes[t] != lexicon.sizes[other]) {
                return lexicon.sizes[t] > lexicon.sizes[other];
            }
            return lexicon.weights[t] > lexicon.weights[other];
        }
    }

    /** The MENDED TEXT. */
    private static final class Mended {
        // A TERM has no more signs than THE SLIP; each WORD may bring one, a blank and a point.
        private static final int MOST = Text.MOST * (Slip.MOST + 2);

        private final Lexicon lexicon;
        private final Text text;
        private final Scan scan;
        final char[] signs;
        int size;
        private boolean fresh;

        Mended(Lexicon lexicon, Text text, Scan scan) {
            this.lexicon = lexicon;
            this.text = text;
            this.scan = scan;
            signs = new char[MOST];
        }

        void forget() {
            fresh = false;
        }

        /** Writes it anew, if anything changed; the scan is settled ahead of it. */
        void write() {
            if (fresh) {
                return;
            }
            size = 0;
            for (int i = 0; i < text.count; i++) {
                int instead = scan.insteadOver(i);
                if (instead == NONE) {
                    addWord(text.words[i]);
                } else if (scan.chosenAt[scan.chosenOver[i]] == i) {
                    addWordsOf(instead);
                }
                if (text.endsSentence(i)) {
                    addSign(POINT);
                }
            }
            fresh = true;
        }

        private void addWordsOf(int t) {
            for (int k = 0; k < lexicon.sizes[t]; k++) {
                addWord(lexicon.wordOf(t, k));
            }
        }

        private void addWord(long letters) {
            if (size > 0) {
                addSign(BLANK);
            }
            int count = Letters.sizeOf(letters);
            for (int i = 0; i < count; i++) {
                addSign(Letters.at(letters, i));
            }
        }

        private void addSign(int sign) {
            if (size < MOST) {
                signs[size] = (char) sign;
                size++;
            }
        }
    }

    /** The numbers of a SEED. */
    private static final class Lots {
        private static final long FACTOR = 16807;
        private static final long PRIME = 2147483647;

        private long x;

        void start(int seed) {
            x = seed;
        }

        /** The next number, left over by bound. */
        int below(int bound) {
            x = x * FACTOR % PRIME;
            return bound > 0 ? (int) (x % bound) : 0;
        }
    }
}
