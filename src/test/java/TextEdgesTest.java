import java.math.BigInteger;

/**
 * The boundary cases of promises 12 to 21, a test for each sentence that names one: the last that is allowed, the
 * first that is not, on both sides, and that a refused call, and a question, changes nothing.
 */
public final class TextEdgesTest {
    private static final int NONE = TermScan.NONE, UNKNOWN = TermScan.UNKNOWN, OUTSIDE = TermScan.OUTSIDE,
            FULL = TermScan.FULL;
    private static final int LEAST = Integer.MIN_VALUE, GREATEST = Integer.MAX_VALUE;
    /** Numbers that no WORD of THE TEXT ever has. */
    private static final int[] FAR = {LEAST, LEAST + 1, FULL, UNKNOWN, -2, -1, 60, 61, 64, 256, GREATEST - 1, GREATEST};
    private static final String TWELVE = "abcdefghijkl", THIRTEEN = "abcdefghijklm";

    private static final Due due = new Due();

    public static void main(String[] args) {
        readBounds();
        readLetters();
        readThirteenLetters();
        readPoints();
        readSixtyWords();
        readInPieces();
        wipe();
        driftBounds();
        driftWithoutRoom();
        driftOfPointsAlone();
        driftGoesOnWithTheWord();
        driftOfGreatNumbers();
        wordBounds();
        wordAtItsMost();
        told();
        toldAtItsMost();
        foundBounds();
        chosenBounds();
        longestBounds();
        longestOfLikeOnes();
        signBounds();
        signsAtTheirMost();
        same();
        questionsChangeNothing();
        meetsOneEnding();
        meetsTwelveLetters();
        foundAtTheEnds();
        foundInOneSentence();
        reachAtTheEnds();
        chosenOfGreatestWorth();
        chosenOfTheFewest();
        chosenThatBeginsSooner();
        chosenWithMoreWords();
        chosenOfTheLesserTerm();
        chosenSideBySide();
        mendedPoints();
        mendedInstead();
        due.finish("TextEdgesTest");
    }

    private static void mendedIs(String what, TermScan x, String want) {
        String got = Due.mended(x);
        due.isTrue(what + ": mended is '" + got + "', due is '" + want + "'", got.equals(want));
        due.is(what + ": its signs", x.told(11), want.length());
    }

    /** WORD and TERM of each that is CHOSEN, in turn. */
    private static void chosenAre(String what, TermScan x, int... wordThenTerm) {
        int count = wordThenTerm.length / 2;
        due.is(what + ": how many", x.told(7), count);
        for (int k = 0; k < count; k++) {
            due.is(what + ": WORD of " + k, x.chosen(k, 0), wordThenTerm[2 * k]);
            due.is(what + ": TERM of " + k, x.chosen(k, 1), wordThenTerm[2 * k + 1]);
        }
        due.is(what + ": not so many", x.chosen(count, 0), NONE);
    }

    private static TermScan withTerms(int weight, int bent, String... all) {
        TermScan x = new TermScan();
        for (String words : all) {
            Due.term(x, words, weight, bent);
        }
        return x;
    }

    // ---- promise 12

    private static void readBounds() {
        for (int sign : new int[] {LEAST, UNKNOWN, -2, -1, 256, 257, 97 + 256, 46 + 256, 97 - 256, 97 + 65536, GREATEST}) {
            due.refused("12: no sign " + sign, Scene.NEW, x -> x.read(sign), OUTSIDE);
            due.refused("12: no sign " + sign + ", a WORD comes", Scene.SOME, x -> x.read(sign), OUTSIDE);
            due.refused("12: no sign " + sign + ", OUTSIDE comes ahead of FULL", Scene.MOST, x -> x.read(sign), OUTSIDE);
        }
        for (int sign = 0; sign <= 255; sign++) {
            boolean letter = sign >= 97 && sign <= 122;
            TermScan x = new TermScan();
            due.is("12: read(" + sign + ") first", x.read(sign), 0);
            due.is("12: letters that come then", x.told(5), letter ? 1 : 0);
            due.is("12: SENTENCES then", x.told(4), 0);
            TermScan y = new TermScan();
            y.read('q');
            due.is("12: read(" + sign + ") behind a letter", y.read(sign), letter ? 0 : 1);
            due.is("12: letters that come then", y.told(5), letter ? 2 : 0);
            due.is("12: SENTENCES then", y.told(4), sign == 46 ? 1 : 0);
        }
    }

    private static void readLetters() {
        TermScan x = new TermScan();
        due.is("12: a WORD of one letter", Due.read(x, "a "), 1);
        due.is("12: a WORD of one letter, the last", Due.read(x, "z "), 2);
        due.is("12: no letter, no WORD", Due.read(x, " ,-. ` { "), 2);
        due.is("12: capitals part WORDS", Due.read(x, "aBc "), 4);
        due.is("12: the sign ahead of a and that behind z part WORDS", Due.read(x, "a`b{c "), 7);
        mendedIs("12: its letters", x, "a z. a c a b c");
    }

    private static void readThirteenLetters() {
        TermScan x = new TermScan();
        for (int i = 1; i <= 12; i++) {
            x.read('k');
            due.is("12: letters that come", x.told(5), i);
        }
        Due.read(x, " ");
        due.is("12: twelve are not TOO LONG", x.word(0, 2), 0);
        for (int i = 1; i <= 20; i++) {
            due.is("12: a letter that is dropped is no refusal", x.read(i <= 12 ? 'k' : 'm'), 1);
        }
        due.is("12: a thirteenth and later letters are dropped", x.told(5), 12);
        due.is("12: the WORD ends", x.read(' '), 2);
        due.is("12: it is TOO LONG", x.word(1, 2), 1);
        due.is("12: it has twelve", x.word(1, 0), 12);
        Due.read(x, THIRTEEN + " " + TWELVE + ".");
        due.is("12: thirteen are TOO LONG", x.word(2, 2), 1);
        due.is("12: the next is not", x.word(3, 2), 0);
        mendedIs("12: of one TOO LONG its 12 letters", x, "kkkkkkkkkkkk kkkkkkkkkkkk " + TWELVE + " " + TWELVE + ".");
    }

    private static void readPoints() {
        TermScan x = new TermScan();
        due.is("12: a point ahead of all", Due.read(x, "..."), 0);
        due.is("12: no SENTENCE without a WORD", x.told(4), 0);
        due.is("12: a point ends the WORD", Due.read(x, "a."), 1);
        due.is("12: and the SENTENCE", x.told(4), 1);
        due.is("12: points behind it", Due.read(x, ". ..,."), 1);
        due.is("12: end no other", x.told(4), 1);
        due.is("12: a WORD that ended ahead of its point", Due.read(x, "b - ."), 2);
        due.is("12: ends the SENTENCE", x.told(4), 2);
        Due.read(x, "c d");
        due.is("12: a SENTENCE that has no end yet is not counted", x.told(4), 2);
        due.is("12: nor is the WORD that comes", x.told(3), 3);
        due.is("12: the SENTENCE of a WORD in it", x.word(2, 1), 2);
        x.read('.');
        due.is("12: both WORDS are of one", x.word(3, 1), 2);
        due.is("12: it has ended", x.told(4), 3);
    }

    private static void readSixtyWords() {
        TermScan x = new TermScan();
        for (int i = 1; i <= 60; i++) {
            due.is("12: a letter of WORD " + i, x.read('a'), i - 1);
            due.is("12: WORD " + i, x.read(i % 2 == 0 ? '.' : ' '), i);
        }
        due.is("12: a letter, when 60 have ended", x.read('a'), FULL);
        due.is("12: the last letter, when 60 have ended", x.read('z'), FULL);
        due.is("12: nothing comes", x.told(5), 0);
        for (int sign : new int[] {97, 110, 122}) {
            due.refused("12: a letter, when 60 have ended", Scene.MOST, y -> y.read(sign), FULL);
        }
        for (int sign : new int[] {0, 32, 45, 47, 96, 123, 255}) {
            TermScan y = Scene.MOST.make();
            due.is("12: no letter, when 60 have ended, " + sign, y.read(sign), 60);
            due.alike("12: which changes nothing", Scene.MOST.then(z -> z.read(sign)), Scene.MOST);
        }
        TermScan y = Scene.MOST.make();
        due.is("12: SENTENCES of 60 WORDS", y.told(4), 3);
        due.is("12: a point, when 60 have ended", y.read('.'), 60);
        due.is("12: it ends the SENTENCE", y.told(4), 4);
        due.is("12: a second point", y.read('.'), 60);
        due.is("12: ends none", y.told(4), 4);
        due.is("12: still no room", y.read('a'), FULL);
        TermScan z = new TermScan();
        for (int i = 0; i < 59; i++) {
            Due.read(z, "a.");
        }
        for (int i = 0; i < 15; i++) {
            due.is("12: letters of the sixtieth", z.read('b'), 59);
        }
        due.is("12: the sixtieth ends", z.read('.'), 60);
        due.is("12: 60 SENTENCES", z.told(4), 60);
        due.is("12: the last has number 59", z.word(59, 1), 59);
        due.is("12: the sixtieth is TOO LONG", z.word(59, 2), 1);
    }

    /** Questions between the signs: a TERM is FOUND as soon as its last WORD has ended, however the pieces fall. */
    private static void readInPieces() {
        TermScan x = withTerms(1, 0, "a b c d", "b c");
        String signs = "a b c d.";
        int[] found = {0, 0, 0, 0, 0, 1, 1, 2};
        int[] reach = {0, 1, 1, 2, 2, 3, 3, 4};
        for (int i = 0; i < signs.length(); i++) {
            x.read(signs.charAt(i));
            due.is("12: FOUND behind sign " + i, x.told(6), found[i]);
            due.is("12: REACH behind sign " + i, i == 0 ? 0 : x.word(x.told(3) - 1, 3), reach[i]);
        }
    }

    // ---- promise 13

    private static void wipe() {
        due.is("13: no TEXT", new TermScan().wipe(), 0);
        TermScan coming = new TermScan();
        coming.read('a');
        due.is("13: a WORD that comes is not counted", coming.wipe(), 0);
        due.is("13: it is gone", coming.told(5), 0);
        due.is("13: none ends then", coming.read(' '), 0);
        due.is("13: 60 WORDS", Scene.MOST.make().wipe(), 60);
        TermScan x = Scene.MOST.make();
        x.wipe();
        due.is("13: twice", x.wipe(), 0);
        due.is("13: there is room again", x.read('a'), 0);
        for (Scene scene : new Scene[] {Scene.NEW, Scene.SOME, Scene.MOST}) {
            for (String text : new String[] {"", " ", "x", "x ", "a b.", THIRTEEN, "a b a c as d. red car "}) {
                Scene wiped = scene.then(TermScan::wipe);
                due.alike("13: nothing is left of '" + text + "'", wiped.then(y -> Due.read(y, text)).then(TermScan::wipe), wiped);
                due.alike("13: also when it was looked at", wiped.then(y -> {
                    Due.read(y, text);
                    y.told(11);
                    y.wipe();
                }), wiped);
            }
        }
        due.alike("13: what was read ahead is no part of what comes", Scene.NEW.then(y -> {
            Due.term(y, "a b", 1, 0);
            Due.read(y, "a b. " + THIRTEEN);
            y.told(11);
            y.wipe();
            Due.read(y, "b a b ");
        }), Scene.NEW.then(y -> {
            Due.term(y, "a b", 1, 0);
            Due.read(y, "b a b ");
        }));
    }

    // ---- promise 14

    private static void driftBounds() {
        for (int n : new int[] {LEAST, UNKNOWN, -1, 0, 31, 32, 257, GREATEST}) {
            due.refused("14: n " + n, Scene.SOME, x -> x.drift(n, 1), OUTSIDE);
            due.refused("14: n " + n, Scene.MOST, x -> x.drift(n, 999999), OUTSIDE);
            due.refused("14: n " + n + ", no TERMS", Scene.NEW, x -> x.drift(n, 8), OUTSIDE);
        }
        for (int seed : new int[] {LEAST, UNKNOWN, -1, 0, 1000000, 1000001, GREATEST}) {
            due.refused("14: SEED " + seed, Scene.SOME, x -> x.drift(1, seed), OUTSIDE);
            due.refused("14: SEED " + seed, Scene.MOST, x -> x.drift(30, seed), OUTSIDE);
            due.refused("14: n 0, SEED " + seed, Scene.SOME, x -> x.drift(0, seed), OUTSIDE);
        }
        due.is("14: the least n, the least SEED", withTerms(1, 0, "a").drift(1, 1), 1);
        // 999999 * 16807 leaves 1774597664, which leaves 0 by 8: a point; one SEED less leaves no point.
        due.is("14: the least n, the greatest SEED", withTerms(1, 0, "a").drift(1, 999999), 0);
        due.is("14: the least n, one SEED less", withTerms(1, 0, "a").drift(1, 999998), 1);
        TermScan x = withTerms(1, 0, "a");
        due.is("14: the greatest n, the greatest SEED", x.drift(30, 999999), 30 - pointsOf(30, 999999));
        TermScan y = withTerms(1, 0, "a");
        due.is("14: the greatest n, the least SEED", y.drift(30, 1), 30 - pointsOf(30, 1));
        due.alike("14: THE TEXT was looked at", Scene.SOME.then(z -> z.told(11)).then(z -> z.drift(12, 7)), Scene.SOME.then(z -> z.drift(12, 7)));
        due.is("14: nothing is left over from call to call", x.wipe() - x.drift(30, 999999), 0);
    }

    /** The lots that are points, when there is one TERM of one WORD and no ENDING: four numbers a WORD, one a point. */
    private static int pointsOf(int n, int seed) {
        BigInteger x = BigInteger.valueOf(seed);
        int points = 0;
        for (int i = 0; i < n; i++) {
            x = next(x);
            if (x.mod(BigInteger.valueOf(8)).signum() == 0) {
                points++;
            } else {
                x = next(next(next(x)));
            }
        }
        return points;
    }

    private static BigInteger next(BigInteger x) {
        return x.multiply(BigInteger.valueOf(16807)).mod(BigInteger.valueOf(2147483647));
    }

    private static void driftWithoutRoom() {
        // Of SEED 1 the first lots are no points, 8 * 16807 leaves 0 by 8: of SEED 8 the first is one.
        for (int words = 57; words <= 60; words++) {
            TermScan x = withTerms(1, 0, "a");
            for (int i = 0; i < words; i++) {
                Due.read(x, "b ");
            }
            due.is("14: room for one, " + words, x.drift(1, 1), Math.min(60, words + 1));
            due.is("14: room for no more", x.drift(30, 1), 60);
            due.is("14: nothing comes", x.told(5), 0);
        }
        due.refused("14: no room for a WORD, which is no refusal", Scene.MOST, x -> x.drift(1, 1), 60);
        due.refused("14: it ends ahead of the first", Scene.MOST, x -> x.drift(30, 1), 60);
        TermScan x = Scene.MOST.make();
        due.is("14: a point needs no room", x.drift(1, 8), 60);
        due.is("14: it ends the SENTENCE", x.told(4), 4);
        due.is("14: a point, and then it ends", Scene.MOST.make().drift(30, 8), 60);
        for (int seed = 1; seed <= 200; seed++) {
            if (pointsOf(1, seed) == 0) {
                TermScan y = Scene.MOST.make();
                y.drift(30, seed);
                due.is("14: no point comes behind a WORD for which there is no room, SEED " + seed, y.told(4), 3);
            }
        }
    }

    /** The number of the first point, if each lot that is none takes one number alone. */
    private static int firstPoint(int seed) {
        BigInteger x = next(BigInteger.valueOf(seed));
        int lot = 0;
        while (x.mod(BigInteger.valueOf(8)).signum() != 0) {
            x = next(x);
            lot++;
        }
        return lot;
    }

    private static void driftOfPointsAlone() {
        for (int seed : new int[] {1, 2, 5, 8, 16, 77, 999999}) {
            int first = firstPoint(seed);
            TermScan x = new TermScan();
            Due.ending(x, "s");
            Due.read(x, "ab");
            int n = Math.min(30, Math.max(1, first));
            if (first > 0) {
                due.is("14: no TERMS, no point yet, SEED " + seed, x.drift(n, seed), 0);
                due.is("14: no letter, no blank comes", x.told(5), 2);
            }
            if (first < 30) {
                due.is("14: no TERMS, a point, SEED " + seed, x.drift(first + 1, seed), 1);
                due.is("14: it ends the SENTENCE", x.told(4), 1);
                due.is("14: no WORD comes", x.drift(30, seed), 1);
                due.is("14: points end no SENTENCE that has no WORD", x.told(4), 1);
            }
        }
        due.is("14: no TERMS, no TEXT", new TermScan().drift(30, 8), 0);
        TermScan full = Scene.NEW.make();
        for (int i = 0; i < 60; i++) {
            Due.read(full, "a ");
        }
        due.is("14: no TERMS, 60 WORDS", full.drift(30, 1), 60);
        due.is("14: it goes on to the point", full.told(4), firstPoint(1) < 30 ? 1 : 0);
    }

    private static void driftGoesOnWithTheWord() {
        TermScan x = withTerms(1, 0, "bc");
        Due.read(x, "a");
        due.is("14: the WORD that comes goes on", x.drift(1, 1), 1);
        mendedIs("14: its letters", x, "abc");
        TermScan y = withTerms(1, 0, "bc");
        Due.read(y, "abcdefghijk");
        y.drift(1, 1);
        due.is("14: to TOO LONG", y.word(0, 2), 1);
        due.is("14: of twelve letters", y.word(0, 0), 12);
        TermScan z = withTerms(1, 0, "bc");
        Due.read(z, "abcdefghij");
        z.drift(1, 1);
        due.is("14: or not, with twelve", z.word(0, 2), 0);
        TermScan last = withTerms(1, 0, "bc");
        for (int i = 0; i < 59; i++) {
            Due.read(last, "a ");
        }
        Due.read(last, "a");
        due.is("14: there is room for the sixtieth that comes", last.drift(30, 1), 60);
        due.is("14: its letters", last.word(59, 0), 3);
        TermScan point = withTerms(1, 0, "bc");
        Due.read(point, "a");
        due.is("14: a point ends it", point.drift(1, 8), 1);
        due.is("14: its letter", point.word(0, 0), 1);
        TermScan bent = withTerms(1, 1, TWELVE);
        Due.ending(bent, "s");
        bent.drift(30, 4);
        int tooLong = 0;
        for (int i = 0; i < bent.told(3); i++) {
            tooLong += bent.word(i, 2);
        }
        due.is("14: twelve letters with an ENDING are TOO LONG", bent.told(6), bent.told(3) - tooLong);
        due.isTrue("14: some have an ENDING, some not", tooLong > 0 && tooLong < bent.told(3));
    }

    /** The numbers go far over what an int holds. */
    private static void driftOfGreatNumbers() {
        String[][] terms = {{"a"}, {"b", "c"}, {"d", "e", "f"}, {"g", "h", "i", "j"}, {"k"}, {"l"}, {"m", "n"}, {"o"}};
        String[] endings = {"v", "w", "x", "y", "z"};
        for (int seed : new int[] {1, 2, 3, 7, 127773, 499999, 500000, 999998, 999999}) {
            for (int with = 0; with <= 5; with += 5) {
                TermScan x = new TermScan();
                for (String[] words : terms) {
                    Due.term(x, String.join(" ", words), 1, 0);
                }
                for (int e = 0; e < with; e++) {
                    Due.ending(x, endings[e]);
                }
                x.drift(30, seed);
                mendedIs("14: SEED " + seed + ", ENDINGS " + with, x, lots(30, seed, terms, endings, with));
            }
        }
    }

    private static BigInteger x;

    private static int below(int bound) {
        x = next(x);
        return x.mod(BigInteger.valueOf(bound)).intValue();
    }

    private static String lots(int n, int seed, String[][] terms, String[] endings, int with) {
        x = BigInteger.valueOf(seed);
        StringBuilder all = new StringBuilder();
        for (int i = 0; i < n; i++) {
            if (below(8) == 0) {
                if (all.length() > 0 && all.charAt(all.length() - 1) != '.') {
                    all.append('.');
                }
            } else {
                String[] words = terms[below(terms.length)];
                all.append(all.length() > 0 ? " " : "").append(words[below(words.length)]);
                if (below(3) == 0 && with > 0) {
                    all.append(endings[below(with)]);
                }
            }
        }
        return all.toString();
    }

    // ---- promise 15

    private static void wordBounds() {
        for (int i : FAR) {
            for (int what = -1; what <= 6; what++) {
                due.is("15: word(" + i + ", " + what + ")", Scene.MOST.make().word(i, what), UNKNOWN);
            }
            due.refused("15: no WORD " + i, Scene.NEW, x -> x.word(i, 0), UNKNOWN);
            due.refused("15: no WORD " + i, Scene.SOME, x -> x.word(i, 5), UNKNOWN);
            due.refused("15: no WORD " + i + ", UNKNOWN comes ahead of OUTSIDE", Scene.MOST, x -> x.word(i, 6), UNKNOWN);
        }
        for (int what : new int[] {LEAST, UNKNOWN, -2, -1, 6, 7, 256, GREATEST}) {
            due.refused("15: no what " + what, Scene.SOME, x -> x.word(0, what), OUTSIDE);
            due.refused("15: no what " + what, Scene.MOST, x -> x.word(59, what), OUTSIDE);
        }
        due.refused("15: the WORD that comes", Scene.SOME, x -> x.word(10, 0), UNKNOWN);
        int[] last = {3, 2, 0, 1, 0, NONE};
        int[] first = {1, 0, 0, 0, 0, NONE};
        int[] sixtieth = {1, 3, 0, 0, 0, NONE};
        for (int what = 0; what <= 5; what++) {
            due.is("15: word(9, " + what + "), the last", Scene.SOME.make().word(9, what), last[what]);
            due.is("15: word(0, " + what + "), the first", Scene.SOME.make().word(0, what), first[what]);
            due.is("15: word(59, " + what + "), the sixtieth", Scene.MOST.make().word(59, what), sixtieth[what]);
        }
    }

    /** Eight TERMS, all FOUND over one WORD. */
    private static TermScan eightOverEach(int words) {
        TermScan x = new TermScan();
        for (String each : new String[] {"aaa", "aa", "a", "aaa aaa", "aa aa", "a a", "aaa aaa aaa", "a a a a"}) {
            Due.term(x, each, 1, 1);
        }
        Due.ending(x, "a");
        Due.ending(x, "aa");
        for (int i = 0; i < words; i++) {
            Due.read(x, "aaa ");
        }
        return x;
    }

    private static void wordAtItsMost() {
        TermScan x = eightOverEach(60);
        due.is("15: a SET of all eight", x.word(59, 4), 255);
        due.is("15: at the first, too", x.word(0, 4), 255);
        due.is("15: REACH four", x.word(59, 3), 4);
        for (int i = 0; i < 3; i++) {
            due.is("15: REACH at the beginning", x.word(i, 3), i + 1);
        }
        TermScan one = eightOverEach(1);
        due.is("15: one WORD, those of one", one.word(0, 4), 7);
        TermScan two = eightOverEach(2);
        due.is("15: two WORDS, those of two", two.word(1, 4), 63);
        TermScan three = eightOverEach(3);
        due.is("15: three WORDS, those of three", three.word(2, 4), 127);
        TermScan four = eightOverEach(4);
        due.is("15: four WORDS, all", four.word(3, 4), 255);
        TermScan apart = withTerms(1, 0, "a");
        for (int i = 0; i < 60; i++) {
            Due.read(apart, "a ");
        }
        due.is("15: the first CHOSEN has number 0", apart.word(0, 5), 0);
        due.is("15: the last of 60 has number 59", apart.word(59, 5), 59);
        TermScan wide = withTerms(1, 0, "a b c d");
        Due.read(wide, "x a b c d x ");
        int[] over = {NONE, 0, 0, 0, 0, NONE};
        for (int i = 0; i < over.length; i++) {
            due.is("15: the CHOSEN one over WORD " + i, wide.word(i, 5), over[i]);
            due.is("15: those FOUND over WORD " + i, wide.word(i, 4), over[i] + 1);
        }
    }

    // ---- promise 16

    private static void told() {
        for (int what : new int[] {LEAST, UNKNOWN, -2, -1, 13, 14, 256, GREATEST}) {
            due.refused("16: no what " + what, Scene.NEW, x -> x.told(what), OUTSIDE);
            due.refused("16: no what " + what, Scene.SOME, x -> x.told(what), OUTSIDE);
            due.refused("16: no what " + what, Scene.MOST, x -> x.told(what), OUTSIDE);
        }
        int[] some = {3, 2, 4, 10, 2, 5, 4, 3, 10, 4, 2, 61, 2};
        for (int what = 0; what <= 12; what++) {
            due.is("16: told(" + what + ") of a new one", new TermScan().told(what), 0);
            due.is("16: told(" + what + ")", Scene.SOME.make().told(what), some[what]);
        }
        mendedIs("16: the text", Scene.SOME.make(), "a red cars. motor car is motor car " + TWELVE + " so. motor red");
    }

    private static void toldAtItsMost() {
        TermScan most = Scene.MOST.make();
        int[] first = {8, 5, 50, 60};
        for (int what = 0; what < first.length; what++) {
            due.is("16: told(" + what + ") at its most", most.told(what), first[what]);
        }
        TermScan x = eightOverEach(60);
        due.is("16: FOUND", x.told(6), 3 * 60 + 3 * 59 + 58 + 57);
        due.is("16: CHOSEN, the fewest", x.told(7), 15);
        due.is("16: WORTH", x.told(8), 60);
        due.is("16: WORDS that they have", x.told(9), 60);
        x.change(7, 0, 9);
        due.is("16: the greatest WORTH", x.told(8), 540);
        due.is("16: of one", x.chosen(14, 2), 36);
        due.is("16: of one that is FOUND", x.found(7, 2), 36);
        TermScan y = withTerms(9, 0, "a", "b");
        y.forbid(0, 1);
        for (int i = 0; i < 60; i++) {
            Due.read(y, "a.");
        }
        int[] rest = {60, 60, 0, 60, 60, 540, 60, 60, 60 * 3 - 1, 1};
        for (int what = 3; what <= 12; what++) {
            due.is("16: told(" + what + ") of 60 SENTENCES", y.told(what), rest[what - 3]);
        }
    }

    // ---- promises 17, 18

    private static void foundBounds() {
        for (int k : new int[] {LEAST, UNKNOWN, -2, -1}) {
            due.refused("17: k below 0, " + k, Scene.SOME, x -> x.found(k, 0), OUTSIDE);
            due.refused("17: k below 0, nothing FOUND, " + k, Scene.NEW, x -> x.found(k, 0), OUTSIDE);
        }
        for (int what : new int[] {LEAST, UNKNOWN, -2, -1, 4, 5, 256, GREATEST}) {
            due.refused("17: no what " + what, Scene.SOME, x -> x.found(0, what), OUTSIDE);
            due.is("17: no what " + what + ", nor so many", Scene.SOME.make().found(GREATEST, what), OUTSIDE);
            due.is("17: no what " + what + ", k below 0", Scene.SOME.make().found(-1, what), OUTSIDE);
        }
        TermScan x = Scene.SOME.make();
        int[][] want = {{1, 0, 4, 1}, {2, 1, 3, 0}, {3, 1, 3, 1}, {5, 1, 3, 1}};
        for (int what = 0; what <= 3; what++) {
            for (int k = 0; k < want.length; k++) {
                due.is("17: found(" + k + ", " + what + ")", x.found(k, what), want[k][what]);
            }
            due.is("17: one behind the last", x.found(4, what), NONE);
            due.is("17: far behind", x.found(GREATEST, what), NONE);
            due.is("17: nothing FOUND", new TermScan().found(0, what), NONE);
        }
        TermScan most = eightOverEach(60);
        due.is("17: the last of 472, its WORD", most.found(471, 0), 59);
        due.is("17: its TERM", most.found(471, 1), 2);
        due.is("17: one behind it", most.found(472, 0), NONE);
        for (int k = 0; k < 8; k++) {
            due.is("17: at one WORD by TERM", most.found(8 + k, 1), k);
            due.is("17: at one WORD", most.found(8 + k, 0), 1);
        }
    }

    private static void chosenBounds() {
        for (int k : new int[] {LEAST, UNKNOWN, -2, -1}) {
            due.refused("18: k below 0, " + k, Scene.SOME, x -> x.chosen(k, 0), OUTSIDE);
            due.refused("18: k below 0, nothing CHOSEN, " + k, Scene.NEW, x -> x.chosen(k, 0), OUTSIDE);
        }
        for (int what : new int[] {LEAST, UNKNOWN, -2, -1, 4, 5, 256, GREATEST}) {
            due.refused("18: no what " + what, Scene.SOME, x -> x.chosen(0, what), OUTSIDE);
            due.is("18: no what " + what + ", nor so many", Scene.SOME.make().chosen(GREATEST, what), OUTSIDE);
            due.is("18: no what " + what + ", k below 0", Scene.SOME.make().chosen(-1, what), OUTSIDE);
        }
        TermScan x = Scene.SOME.make();
        int[][] want = {{1, 0, 4, NONE}, {3, 1, 3, 2}, {5, 1, 3, 2}};
        for (int what = 0; what <= 3; what++) {
            for (int k = 0; k < want.length; k++) {
                due.is("18: chosen(" + k + ", " + what + ")", x.chosen(k, what), want[k][what]);
            }
            due.is("18: one behind the last", x.chosen(3, what), NONE);
            due.is("18: far behind", x.chosen(GREATEST, what), NONE);
            due.is("18: nothing CHOSEN", new TermScan().chosen(0, what), NONE);
        }
        TermScan most = withTerms(1, 0, "a");
        for (int i = 0; i < 60; i++) {
            Due.read(most, "a ");
        }
        due.is("18: the sixtieth", most.chosen(59, 0), 59);
        due.is("18: one behind it", most.chosen(60, 0), NONE);
    }

    // ---- promise 19

    private static void longestBounds() {
        for (int i : FAR) {
            due.refused("19: no WORD " + i, Scene.NEW, x -> x.longest(i), UNKNOWN);
            due.refused("19: no WORD " + i, Scene.SOME, x -> x.longest(i), UNKNOWN);
            due.refused("19: no WORD " + i, Scene.MOST, x -> x.longest(i), UNKNOWN);
        }
        due.refused("19: the WORD that comes", Scene.SOME, x -> x.longest(10), UNKNOWN);
        int[] want = {NONE, 0, 1, 1, NONE, 1, NONE, NONE, NONE, NONE};
        TermScan x = Scene.SOME.make();
        for (int i = 0; i < want.length; i++) {
            due.is("19: longest(" + i + ")", x.longest(i), want[i]);
        }
        due.is("19: the sixtieth", withSixty("b").longest(59), NONE);
        due.is("19: the sixtieth", withSixty("a").longest(59), 0);
    }

    private static TermScan withSixty(String word) {
        TermScan x = withTerms(1, 0, "a");
        for (int i = 0; i < 60; i++) {
            Due.read(x, word + " ");
        }
        return x;
    }

    private static void longestOfLikeOnes() {
        TermScan x = eightOverEach(60);
        int[] want = {7, 6, 3, 0};
        for (int i = 0; i < 4; i++) {
            due.is("19: most WORDS, " + (4 - i), x.longest(56 + i), want[i]);
        }
        x.change(2, 0, 9);
        due.is("19: of like ones of the greatest WEIGHT, one WORD", x.longest(59), 2);
        due.is("19: WORDS come ahead of WEIGHT", x.longest(58), 3);
        x.change(5, 0, 2);
        due.is("19: of like ones of the greatest WEIGHT, two WORDS", x.longest(58), 5);
        x.change(4, 0, 2);
        due.is("19: then the least", x.longest(58), 4);
        x.change(3, 0, 2);
        due.is("19: then the least of three", x.longest(58), 3);
        due.is("19: it need not be CHOSEN", x.longest(57), 6);
    }

    // ---- promise 20

    private static void signBounds() {
        for (int i : new int[] {LEAST, LEAST + 1, UNKNOWN, -2, -1}) {
            due.refused("20: below 0, " + i, Scene.NEW, x -> x.sign(i), OUTSIDE);
            due.refused("20: below 0, " + i, Scene.SOME, x -> x.sign(i), OUTSIDE);
            due.refused("20: below 0, " + i, Scene.MOST, x -> x.sign(i), OUTSIDE);
        }
        for (int i : new int[] {0, 1, 3119, 3120, GREATEST - 1, GREATEST}) {
            due.is("20: no TEXT, " + i, new TermScan().sign(i), NONE);
        }
        TermScan x = new TermScan();
        Due.read(x, "ab");
        due.is("20: a WORD that comes is no part of it", x.sign(0), NONE);
        x.read(' ');
        due.is("20: the first", x.sign(0), 'a');
        due.is("20: the last", x.sign(1), 'b');
        due.is("20: not so many", x.sign(2), NONE);
        x.read('.');
        due.is("20: the point behind it", x.sign(2), '.');
        due.is("20: not so many", x.sign(3), NONE);
        due.is("20: not nearly so many", x.sign(GREATEST), NONE);
    }

    private static void signsAtTheirMost() {
        TermScan x = new TermScan();
        Due.term(x, "a", 1, 0);
        Due.term(x, (TWELVE + " ").repeat(3) + "abcdefghijk", 1, 0);
        x.forbid(0, 1);
        for (int i = 0; i < 60; i++) {
            Due.read(x, "a.");
        }
        int most = 60 * 52 - 1;
        due.is("20: its signs", x.told(11), most);
        for (int i = 0; i < 60; i++) {
            due.is("20: the first of piece " + i, x.sign(52 * i), 'a');
            due.is("20: the last of piece " + i, x.sign(52 * i + 49), 'k');
            due.is("20: the point behind it", x.sign(52 * i + 50), '.');
            due.is("20: the blank behind that", x.sign(52 * i + 51), i < 59 ? ' ' : NONE);
        }
    }

    // ---- promise 21

    private static void same() {
        for (int i : FAR) {
            due.refused("21: same(" + i + ", 0)", Scene.SOME, x -> x.same(i, 0), UNKNOWN);
            due.refused("21: same(0, " + i + ")", Scene.SOME, x -> x.same(0, i), UNKNOWN);
            due.refused("21: same(" + i + ", " + i + ")", Scene.MOST, x -> x.same(i, i), UNKNOWN);
            due.refused("21: no TEXT, same(0, " + i + ")", Scene.NEW, x -> x.same(0, i), UNKNOWN);
        }
        due.refused("21: the WORD that comes, first", Scene.SOME, x -> x.same(10, 0), UNKNOWN);
        due.refused("21: the WORD that comes, second", Scene.SOME, x -> x.same(0, 10), UNKNOWN);
        for (int i = 0; i < 60; i += 59) {
            int n = i;
            due.refused("21: one twice, " + i, Scene.MOST, x -> x.same(n, n), UNKNOWN);
        }
        TermScan x = new TermScan();
        Due.read(x, "a b a. aa " + TWELVE + " " + TWELVE + "m " + TWELVE + "m " + TWELVE + ". abcdefghijkm bbcdefghijkl z zz ");
        int[][] alike = {{0, 2}, {4, 7}};
        for (int i = 0; i < 12; i++) {
            for (int j = 0; j < 12; j++) {
                if (i != j) {
                    int want = 0;
                    for (int[] pair : alike) {
                        want = Math.min(i, j) == pair[0] && Math.max(i, j) == pair[1] ? 1 : want;
                    }
                    due.is("21: same(" + i + ", " + j + ")", x.same(i, j), want);
                }
            }
        }
        TermScan first = withSixty("a");
        due.is("21: the first and the sixtieth", first.same(0, 59), 1);
        due.is("21: the sixtieth and the first", first.same(59, 0), 1);
    }

    private static void questionsChangeNothing() {
        for (Scene scene : new Scene[] {Scene.NEW, Scene.SOME, Scene.MOST}) {
            due.alike("10 to 21: questions change nothing", scene.then(x -> {
                for (int what = 0; what <= 12; what++) {
                    x.told(what);
                    x.termOf(0, what);
                    x.word(3, what);
                    x.found(what, what % 4);
                    x.chosen(what, what % 4);
                    x.letter(what % 3, what % 3 - 1, what);
                    x.longest(what);
                    x.sign(what);
                    x.same(what, 2);
                }
            }), scene);
        }
    }

    // ---- MEETS, FOUND, REACH

    private static void meetsOneEnding() {
        TermScan x = new TermScan();
        Due.term(x, "go", 1, 1);
        Due.term(x, "gos", 1, 0);
        Due.ending(x, "s");
        Due.ending(x, "es");
        Due.ending(x, "ness");
        Due.read(x, "go gos goes goness goss goses gosness gonesss g o s es goe gones og sgo goos ");
        int[] over = {1, 3, 1, 1};
        for (int i = 0; i < 17; i++) {
            due.is("15: WORD " + i + " with one ENDING, with none, with two", x.word(i, 4), i < over.length ? over[i] : 0);
        }
        x.change(1, 1, 1);
        due.is("9: BENT, with one ENDING behind it", x.word(4, 4), 2);
        due.is("9: BENT, with another", x.word(5, 4), 2);
        due.is("9: BENT, the same", x.word(1, 4), 3);
        x.change(0, 1, 0);
        due.is("9: not BENT, the same alone", x.word(0, 4), 1);
        due.is("9: not BENT, no ENDING", x.word(2, 4), 0);
        TermScan y = new TermScan();
        Due.term(y, "s", 1, 1);
        Due.ending(y, "s");
        Due.read(y, "s ss sss ");
        int[] ofItself = {1, 1, 0};
        for (int i = 0; i < 3; i++) {
            due.is("15: an ENDING that is the WORD, " + (i + 1), y.word(i, 4), ofItself[i]);
        }
        TermScan z = withTerms(1, 1, "red car");
        Due.ending(z, "s");
        Due.read(z, "red car reds car red cars reds cars redss car red carss ");
        due.is("17: each WORD with an ENDING or without", z.told(6), 4);
    }

    private static void meetsTwelveLetters() {
        TermScan x = new TermScan();
        Due.term(x, TWELVE, 1, 1);
        Due.term(x, "abcdefghijk", 1, 1);
        Due.term(x, "abcdefgh", 1, 1);
        Due.term(x, "abcdefghi", 1, 1);
        Due.ending(x, "m");
        Due.ending(x, "l");
        Due.ending(x, "ijkl");
        Due.ending(x, "jklm");
        Due.read(x, TWELVE + " " + THIRTEEN + " abcdefghijk abcdefghijkm " + TWELVE + "ijkl ");
        int[] over = {1 + 2 + 4, 0, 2, 2, 0};
        for (int i = 0; i < over.length; i++) {
            due.is("15: FOUND over WORD " + i + ", of one TOO LONG none", x.word(i, 4), over[i]);
        }
        TermScan y = withTerms(1, 0, TWELVE);
        Due.read(y, THIRTEEN + " ");
        due.is("17: the first twelve letters are not the same", y.told(6), 0);
        due.is("15: nor do they REACH", y.word(0, 3), 0);
        TermScan z = withTerms(1, 0, "a " + TWELVE + " b");
        Due.read(z, "a " + THIRTEEN + " b a " + TWELVE + " b ");
        due.is("17: one TOO LONG parts a TERM", z.told(6), 1);
        due.is("17: where it begins", z.found(0, 0), 3);
    }

    private static void foundAtTheEnds() {
        for (int words = 1; words <= 4; words++) {
            String term = "a b c d".substring(0, 2 * words - 1);
            TermScan x = withTerms(2, 0, term);
            Due.read(x, term);
            due.is("17: its last WORD has not ended", x.told(6), 0);
            x.read(' ');
            due.is("17: THE TEXT is the TERM", x.told(6), 1);
            due.is("17: it begins at WORD 0", x.found(0, 0), 0);
            due.is("17: its WORTH", x.found(0, 2), 2 * words);
            TermScan y = withTerms(2, 0, term);
            for (int i = 0; i < 60 - words; i++) {
                Due.read(y, "x ");
            }
            Due.read(y, term + " ");
            due.is("17: it ends at the sixtieth", y.found(0, 0), 60 - words);
            due.is("17: it is CHOSEN", y.told(9), words);
            TermScan z = withTerms(2, 0, term + " e".repeat(words < 4 ? 1 : 0));
            for (int i = 0; i < 60 - words; i++) {
                Due.read(z, "x ");
            }
            Due.read(z, term + " ");
            due.is("17: there is no WORD behind the sixtieth", z.told(6), words < 4 ? 0 : 1);
        }
        TermScan x = withTerms(1, 0, "a a", "a a a");
        Due.read(x, "a a a a ");
        due.is("17: one over another", x.told(6), 3 + 2);
    }

    private static void foundInOneSentence() {
        String[] words = {"a", "b", "c", "d"};
        for (int point = 0; point < 4; point++) {
            TermScan x = withTerms(1, 0, "a b c d");
            for (int i = 0; i < 4; i++) {
                Due.read(x, words[i] + (i == point ? ". " : " "));
            }
            due.is("17: a point behind WORD " + point, x.told(6), point == 3 ? 1 : 0);
        }
        TermScan x = withTerms(1, 0, "a b");
        Due.read(x, "a, b a-b a\nb aXb a.b a . b a . . b. a b");
        due.is("17: other signs end no SENTENCE", x.told(6), 4);
        x.read('.');
        due.is("17: a point behind it", x.told(6), 5);
        TermScan y = withTerms(1, 0, "a b");
        Due.read(y, "a..b . a b");
        y.read(';');
        due.is("17: points without a WORD between them", y.told(6), 1);
    }

    private static void reachAtTheEnds() {
        TermScan x = withTerms(1, 0, "a b c d", "c");
        Due.read(x, "a b c d a b c. d a b. c a. a b c d d b c d c ");
        int[] want = {1, 2, 3, 4, 1, 2, 3, 0, 1, 2, 1, 1, 1, 2, 3, 4, 0, 0, 1, 0, 1};
        for (int i = 0; i < want.length; i++) {
            due.is("15: REACH of WORD " + i, x.word(i, 3), want[i]);
        }
        TermScan y = new TermScan();
        Due.read(y, "a ");
        due.is("15: no TERMS, REACH", y.word(0, 3), 0);
        Due.term(y, "b a", 1, 0);
        due.is("15: the second WORD of a TERM is no REACH", y.word(0, 3), 0);
        Due.term(y, "a b", 1, 0);
        due.is("15: the first is", y.word(0, 3), 1);
    }

    // ---- CHOSEN

    private static void chosenOfGreatestWorth() {
        TermScan none = withTerms(1, 0, "a");
        Due.read(none, "b c ");
        chosenAre("18: nothing FOUND", none);
        TermScan x = new TermScan();
        Due.term(x, "a b", 2, 0);
        Due.term(x, "b", 5, 0);
        Due.read(x, "a b ");
        chosenAre("18: WORTH 5 is more than 4", x, 1, 1);
        x.change(1, 0, 4);
        chosenAre("18: of like ones the one that begins sooner", x, 0, 0);
        x.change(1, 0, 3);
        chosenAre("18: WORTH 4 is more than 3", x, 0, 0);
        TermScan y = new TermScan();
        Due.term(y, "a b c d", 9, 0);
        Due.term(y, "a b c", 9, 0);
        Due.term(y, "d", 9, 0);
        Due.read(y, "a b c d ");
        chosenAre("18: 36 and 27 with 9, the fewest", y, 0, 0);
        y.change(0, 0, 8);
        chosenAre("18: 27 with 9 is more than 32", y, 0, 1, 3, 2);
    }

    private static void chosenOfTheFewest() {
        TermScan x = new TermScan();
        Due.term(x, "a", 2, 0);
        Due.term(x, "b", 2, 0);
        Due.term(x, "c", 2, 0);
        Due.term(x, "b c", 2, 0);
        Due.term(x, "a b c", 2, 0);
        Due.read(x, "a b c ");
        chosenAre("18: one is fewer than two, three", x, 0, 4);
        x.change(4, 0, 1);
        chosenAre("18: two are fewer than three", x, 0, 0, 1, 3);
        x.change(3, 0, 1);
        chosenAre("18: three that weigh more", x, 0, 0, 1, 1, 2, 2);
        TermScan y = new TermScan();
        Due.term(y, "a", 4, 0);
        Due.term(y, "b", 4, 0);
        Due.term(y, "b c", 4, 0);
        Due.read(y, "a b c ");
        chosenAre("18: like ones, but what begins sooner is not the only one", y, 0, 0, 1, 2);
        TermScan z = new TermScan();
        Due.term(z, "a", 1, 0);
        Due.term(z, "b", 3, 0);
        Due.term(z, "b c", 2, 0);
        Due.read(z, "a b c ");
        chosenAre("18: WORTH comes ahead of the fewest", z, 0, 0, 1, 2);
        TermScan later = new TermScan();
        Due.term(later, "a b", 1, 0);
        Due.term(later, "c", 2, 0);
        Due.term(later, "b c", 2, 0);
        Due.read(later, "a b c ");
        chosenAre("18: the fewest come ahead of what begins sooner", later, 1, 2);
        later.change(1, 0, 3);
        chosenAre("18: WORTH comes ahead of both", later, 0, 0, 2, 1);
        TermScan fewer = new TermScan();
        Due.term(fewer, "a", 4, 0);
        Due.term(fewer, "a b", 2, 0);
        Due.term(fewer, "c d", 2, 0);
        Due.term(fewer, "b c d e", 2, 0);
        Due.term(fewer, "e", 4, 0);
        Due.read(fewer, "a b c d e ");
        chosenAre("18: the fewest come ahead of more WORDS", fewer, 0, 0, 1, 3);
    }

    private static void chosenThatBeginsSooner() {
        TermScan x = withTerms(1, 0, "b c", "a b", "c d");
        Due.read(x, "a b c ");
        chosenAre("18: the first begins sooner", x, 0, 1);
        TermScan y = withTerms(1, 0, "x", "b c", "c d");
        Due.read(y, "x b c d ");
        chosenAre("18: one by one, the second begins sooner", y, 0, 0, 1, 1);
        TermScan z = withTerms(1, 0, "b c d", "a b c", "d e f", "c d e");
        Due.read(z, "a b c d e ");
        chosenAre("18: of three like ones the first", z, 0, 1);
        z.change(1, 0, 2);
        z.change(3, 0, 2);
        chosenAre("18: of two like ones the first", z, 0, 1);
        z.dropTerm(1);
        chosenAre("18: that which is left", z, 2, 2);
    }

    private static void chosenWithMoreWords() {
        TermScan x = new TermScan();
        Due.term(x, "a", 6, 0);
        Due.term(x, "a b", 3, 0);
        Due.term(x, "a b c", 2, 0);
        Due.read(x, "a b c ");
        chosenAre("18: three WORDS of WORTH 6, two, one", x, 0, 2);
        x.change(2, 0, 1);
        chosenAre("18: two WORDS of WORTH 6, one", x, 0, 1);
        TermScan y = new TermScan();
        Due.term(y, "a", 2, 0);
        Due.term(y, "b c", 2, 0);
        Due.term(y, "a b", 2, 0);
        Due.term(y, "c", 2, 0);
        Due.read(y, "a b c ");
        chosenAre("18: like sums, the first with more WORDS", y, 0, 2, 2, 3);
        TermScan z = new TermScan();
        Due.term(z, "x", 1, 0);
        Due.term(z, "a", 2, 0);
        Due.term(z, "a b", 1, 0);
        Due.read(z, "x a b ");
        chosenAre("18: one by one, the second with more WORDS", z, 0, 0, 1, 2);
    }

    private static void chosenOfTheLesserTerm() {
        TermScan x = new TermScan();
        Due.term(x, "as", 2, 1);
        Due.term(x, "a", 2, 1);
        Due.ending(x, "s");
        Due.read(x, "as a as ");
        chosenAre("18: the lesser TERM", x, 0, 0, 1, 1, 2, 0);
        due.is("17: the other is FOUND, not CHOSEN", x.found(1, 3), 0);
        x.change(1, 0, 3);
        chosenAre("18: WORTH comes ahead of it", x, 0, 1, 1, 1, 2, 1);
        TermScan y = new TermScan();
        Due.term(y, "a b", 2, 1);
        Due.term(y, "as b", 2, 1);
        Due.term(y, "a bs", 2, 1);
        Due.term(y, "as", 4, 1);
        Due.ending(y, "s");
        Due.read(y, "as bs ");
        due.is("17: four are FOUND", y.told(6), 4);
        chosenAre("18: more WORDS, then the lesser TERM", y, 0, 0);
        y.dropTerm(0);
        chosenAre("18: the lesser one behind it", y, 0, 0);
        due.is("18: which it is", y.letter(0, 0, 1), 's');
    }

    private static void chosenSideBySide() {
        TermScan x = withTerms(1, 0, "a b", "c d");
        Due.read(x, "a b c d ");
        chosenAre("18: side by side no WORD is in common", x, 0, 0, 2, 1);
        TermScan y = withTerms(1, 0, "a b", "b c");
        Due.read(y, "a b c ");
        chosenAre("18: with one WORD in common one of two", y, 0, 0);
        TermScan z = withTerms(1, 0, "a a");
        Due.read(z, "a a a a a ");
        due.is("17: four are FOUND", z.told(6), 4);
        chosenAre("18: two have room", z, 0, 0, 2, 0);
        due.is("10: how often FOUND", z.termOf(0, 4), 4);
        due.is("10: how often CHOSEN", z.termOf(0, 5), 2);
    }

    // ---- MENDED

    private static void mendedPoints() {
        TermScan x = new TermScan();
        mendedIs("20: no TEXT", x, "");
        Due.read(x, "...");
        mendedIs("20: points alone", x, "");
        Due.read(x, "a");
        mendedIs("20: a WORD that comes", x, "");
        x.read(' ');
        mendedIs("20: a SENTENCE that has no end yet has no point", x, "a");
        x.read('.');
        mendedIs("20: it has one", x, "a.");
        Due.read(x, "..  b");
        mendedIs("20: points behind it", x, "a.");
        x.read('.');
        mendedIs("20: the last WORD of a SENTENCE", x, "a. b.");
        Due.read(x, "c d. e ");
        mendedIs("20: a blank between two", x, "a. b. c d. e");
    }

    private static void mendedInstead() {
        TermScan x = new TermScan();
        Due.term(x, "a b", 1, 1);
        Due.term(x, " n   e  w ", 1, 1);
        Due.term(x, "o", 1, 0);
        Due.ending(x, "s");
        x.forbid(0, 1);
        Due.read(x, "as bs. x a b, o a b.");
        mendedIs("20: as they were spelled, not bent", x, "n e w. x n e w o n e w.");
        due.is("16: INSTEAD", x.told(10), 3);
        x.forbid(2, 1);
        mendedIs("20: side by side", x, "n e w. x n e w n e w n e w.");
        x.forbid(0, 1);
        x.allow(2);
        x.forbid(0, 2);
        mendedIs("20: fewer WORDS", x, "o. x o o o.");
        x.allow(0);
        mendedIs("20: ALLOWED ones stay as they are", x, "as bs. x a b o a b.");
        due.is("16: INSTEAD", x.told(10), 0);
        TermScan y = new TermScan();
        Due.term(y, "a", 1, 0);
        Due.term(y, "b", 1, 0);
        Due.term(y, "a c", 1, 0);
        y.forbid(0, 1);
        Due.read(y, "a a c ");
        due.is("17: three are FOUND", y.told(6), 3);
        mendedIs("20: what is FOUND, FORBIDDEN, but not CHOSEN stays", y, "b a c");
        due.is("18: INSTEAD of the first", y.chosen(0, 3), 1);
        due.is("18: of one that is ALLOWED", y.chosen(1, 3), NONE);
    }
}
