/** Promises 12 to 21: the text, what is found in it, what is chosen, the text mended. */
public final class TextTest {
    private static final int NONE = TermScan.NONE, UNKNOWN = TermScan.UNKNOWN, OUTSIDE = TermScan.OUTSIDE,
            FULL = TermScan.FULL;
    private static final int[] BELOW_AND_ABOVE = {Integer.MIN_VALUE, UNKNOWN, -2, -1, 60, 1000, Integer.MAX_VALUE};

    private static final Due due = new Due();

    public static void main(String[] args) {
        read();
        readSigns();
        readFull();
        wipe();
        drift();
        driftWithoutTerms();
        driftAgainstItsWords();
        driftRoom();
        word();
        wordTooLong();
        meets();
        sentences();
        reach();
        told();
        found();
        chosenByWorth();
        chosenByFewest();
        chosenByFirst();
        chosenByWords();
        chosenByTerm();
        chosenFacts();
        longest();
        sign();
        mendedAtItsLongest();
        same();
        changesWhileTextStands();
        due.finish("TextTest");
    }

    private static void mendedIs(String what, TermScan x, String want) {
        String got = Due.mended(x);
        due.isTrue(what + ": mended is '" + got + "', due is '" + want + "'", got.equals(want));
        due.is(what + ": told(11)", x.told(11), want.length());
    }

    private static void read() {
        TermScan x = new TermScan();
        for (int v : new int[] {-1, 256, Integer.MIN_VALUE, Integer.MAX_VALUE, 97 + 256}) {
            due.is("12: read(" + v + ")", x.read(v), OUTSIDE);
        }
        due.is("12: a blank first", x.read(32), 0);
        due.is("12: a point first", x.read(46), 0);
        due.is("12: no SENTENCE without a WORD", x.told(4), 0);
        due.is("12: a letter", x.read('a'), 0);
        due.is("12: letters of the WORD that comes", x.told(5), 1);
        due.is("12: a blank ends it", x.read(32), 1);
        due.is("12: no WORD comes", x.told(5), 0);
        due.is("12: another blank", x.read(32), 1);
        due.is("12: a point alone ends the SENTENCE", x.read(46), 1);
        due.is("12: SENTENCES", x.told(4), 1);
        due.is("12: another point does not", x.read(46), 1);
        due.is("12: SENTENCES", x.told(4), 1);
        due.is("12: a point behind a letter", Due.read(x, "b."), 2);
        due.is("12: SENTENCES", x.told(4), 2);
    }

    private static void readSigns() {
        TermScan x = new TermScan();
        int words = 0;
        for (int sign : new int[] {0, 10, 31, 32, 33, 45, 47, 65, 90, 96, 123, 127, 128, 255}) {
            x.read('q');
            words++;
            due.is("12: sign " + sign + " ends a WORD", x.read(sign), words);
        }
        due.is("12: none ends a SENTENCE", x.told(4), 0);
        due.is("12: a and z are letters", Due.read(x, "az"), words);
        due.is("12: a and z are letters", x.told(5), 2);
    }

    private static void readFull() {
        TermScan x = new TermScan();
        for (int i = 1; i < 60; i++) {
            due.is("12: WORD " + i, Due.read(x, "a "), i);
        }
        due.is("12: the sixtieth comes", Due.read(x, "ab"), 59);
        due.is("12: and ends", x.read('-'), 60);
        due.is("12: a letter, when 60 have ended", x.read('a'), FULL);
        due.is("12: z, when 60 have ended", x.read('z'), FULL);
        due.is("12: OUTSIDE, when 60 have ended", x.read(256), OUTSIDE);
        due.is("12: nothing comes", x.told(5), 0);
        due.is("12: a sign that is no letter", x.read('A'), 60);
        due.is("12: a point", x.read('.'), 60);
        due.is("12: SENTENCES", x.told(4), 1);
        due.is("13: wipe", x.wipe(), 60);
        due.is("12: room again", x.read('a'), 0);
    }

    private static void wipe() {
        TermScan x = new TermScan();
        due.is("13: no TEXT", x.wipe(), 0);
        Due.term(x, "a", 1, 0);
        Due.spell(x, "slip");
        Due.read(x, "a. a abcdefghijklmn");
        due.is("13: wipe", x.wipe(), 2);
        for (int what : new int[] {3, 4, 5, 6, 7, 8, 9, 10, 11}) {
            due.is("13: told(" + what + ") then", x.told(what), 0);
        }
        due.is("13: TERMS stay", x.told(0), 1);
        due.is("13: THE SLIP stays", x.told(2), 4);
        due.is("13: WORDS go", x.word(0, 0), UNKNOWN);
        due.is("13: the WORD that came is gone", Due.read(x, "a "), 1);
        due.is("13: also that it was TOO LONG", x.word(0, 2), 0);
        due.is("13: SENTENCES are numbered anew", x.word(0, 1), 0);
        due.is("13: FOUND", x.told(6), 1);
    }

    private static void drift() {
        TermScan x = new TermScan();
        Due.term(x, "a", 1, 0);
        for (int n : new int[] {0, 31, -1, Integer.MIN_VALUE, Integer.MAX_VALUE}) {
            due.is("14: drift(" + n + ", 1)", x.drift(n, 1), OUTSIDE);
        }
        for (int seed : new int[] {0, 1000000, -1, Integer.MIN_VALUE, Integer.MAX_VALUE}) {
            due.is("14: drift(1, " + seed + ")", x.drift(1, seed), OUTSIDE);
        }
        due.is("14: what is refused changes nothing", x.told(3), 0);
        due.is("14: the least", x.drift(1, 1), 1);
        due.isTrue("14: the greatest", x.drift(30, 999999) > 1);
    }

    private static void driftWithoutTerms() {
        TermScan x = new TermScan();
        Due.ending(x, "s");
        x.read('a');
        // 16807, 282475249, .. by 8 leave 7, 1: no point among the first two lots of seed 1
        due.is("14: no TERMS, no point", x.drift(2, 1), 0);
        due.is("14: the WORD that comes stays", x.told(5), 1);
        // 8 * 16807 leaves 0 by 8
        due.is("14: no TERMS, a point", x.drift(1, 8), 1);
        due.is("14: it ends the SENTENCE", x.told(4), 1);
    }

    /** The lots written out once more, on signs that are read one by one. */
    private static void driftAgainstItsWords() {
        String[][] terms = {{"red", "car"}, {"abcdefghijkl"}, {"motor", "car", "or", "so"}};
        String[] endings = {"s", "ings"};
        for (int seed = 1; seed < 400; seed++) {
            for (int with = 0; with <= endings.length; with++) {
                TermScan x = new TermScan();
                TermScan y = new TermScan();
                for (String[] words : terms) {
                    Due.term(x, String.join(" ", words), 2, 1);
                    Due.term(y, String.join(" ", words), 2, 1);
                }
                for (int e = 0; e < with; e++) {
                    Due.ending(x, endings[e]);
                    Due.ending(y, endings[e]);
                }
                // Reading and asking sign by sign would take more than 512 calls for 30 lots.
                int n = 1 + seed % 15;
                due.is("14: drift(" + n + ", " + seed + ")", x.drift(n, seed), Due.read(y, lots(n, seed, terms, endings, with)));
                for (int what = 3; what <= 11; what++) {
                    due.is("14: drift(" + n + ", " + seed + "), told(" + what + ")", x.told(what), y.told(what));
                }
                due.isTrue("14: the same text", Due.mended(x).equals(Due.mended(y)));
            }
        }
    }

    private static String lots(int n, int seed, String[][] terms, String[] endings, int endingCount) {
        StringBuilder signs = new StringBuilder();
        long x = seed;
        for (int i = 0; i < n; i++) {
            x = x * 16807 % 2147483647;
            if (x % 8 == 0) {
                signs.append('.');
                continue;
            }
            x = x * 16807 % 2147483647;
            String[] words = terms[(int) (x % terms.length)];
            x = x * 16807 % 2147483647;
            signs.append(words[(int) (x % words.length)]);
            x = x * 16807 % 2147483647;
            if (x % 3 == 0 && endingCount > 0) {
                x = x * 16807 % 2147483647;
                signs.append(endings[(int) (x % endingCount)]);
            }
            signs.append(' ');
        }
        return signs.toString();
    }

    private static void driftRoom() {
        TermScan x = new TermScan();
        Due.term(x, "a", 1, 0);
        for (int i = 0; i < 59; i++) {
            Due.read(x, "b ");
        }
        x.read('c');
        due.is("14: the WORD that comes goes on, and there is room for no other", x.drift(30, 1), 60);
        due.is("14: letters of the sixtieth", x.word(59, 0), 2);
        due.is("14: nothing comes", x.told(5), 0);
        due.is("14: no room", x.drift(30, 3), 60);
        int sentences = x.told(4);
        due.is("14: a point needs no room", x.drift(1, 8), 60);
        due.is("14: SENTENCES", x.told(4), 1);
        due.isTrue("14: SENTENCES were fewer or like", sentences <= 1);
    }

    private static void word() {
        TermScan x = new TermScan();
        due.is("15: none there", x.word(0, 0), UNKNOWN);
        Due.term(x, "red car", 2, 0);
        Due.term(x, "car", 1, 0);
        Due.term(x, "car park", 1, 0);
        Due.read(x, "a red car park. car");
        due.is("15: the WORD that comes is none yet", x.word(4, 0), UNKNOWN);
        x.read(' ');
        int[][] want = {
            {1, 0, 0, 0, 0, NONE},
            {3, 0, 0, 1, 1, 0},
            {3, 0, 0, 2, 7, 0},
            {4, 0, 0, 2, 4, NONE},
            {3, 1, 0, 1, 2, 1},
        };
        for (int i = 0; i < want.length; i++) {
            for (int what = 0; what < 6; what++) {
                due.is("15: word(" + i + ", " + what + ")", x.word(i, what), want[i][what]);
            }
        }
        for (int v : BELOW_AND_ABOVE) {
            due.is("15: word(" + v + ", 0)", x.word(v, 0), UNKNOWN);
            due.is("15: word(0, " + v + ")", x.word(0, v), OUTSIDE);
            due.is("15: word(" + v + ", " + v + ")", x.word(v, v), UNKNOWN);
        }
        due.is("15: word(5, 0)", x.word(5, 0), UNKNOWN);
        due.is("15: word(0, 6)", x.word(0, 6), OUTSIDE);
    }

    private static void wordTooLong() {
        TermScan x = new TermScan();
        Due.term(x, "abcdefghijkl", 1, 1);
        Due.term(x, "abcdefghijk", 1, 1);
        Due.ending(x, "m");
        Due.ending(x, "l");
        Due.read(x, "abcdefghijkl ");
        Due.read(x, "abcdefghijklm");
        due.is("16: letters of the WORD that comes", x.told(5), 12);
        Due.read(x, " abcdefghijklmnopq abcdefghijk");
        x.read('.');
        due.is("15: twelve letters are not TOO LONG", x.word(0, 2), 0);
        due.is("15: thirteen are", x.word(1, 2), 1);
        due.is("15: seventeen are", x.word(2, 2), 1);
        due.is("15: its letters", x.word(2, 0), 12);
        due.is("15: the next is not", x.word(3, 2), 0);
        due.is("2: both TERMS are FOUND at the first", x.word(0, 4), 3);
        due.is("2: one TOO LONG MEETS none", x.word(1, 4), 0);
        due.is("2: it has no REACH", x.word(1, 3), 0);
        due.is("2: nor this", x.word(2, 4), 0);
        due.is("2: one is FOUND at the last", x.word(3, 4), 2);
        mendedIs("20: of one TOO LONG its 12 letters", x, "abcdefghijkl abcdefghijkl abcdefghijkl abcdefghijk.");
    }

    private static void meets() {
        TermScan x = new TermScan();
        Due.term(x, "go", 1, 1);
        Due.term(x, "go on", 1, 1);
        Due.term(x, "goes", 1, 0);
        Due.term(x, "es", 1, 1);
        Due.ending(x, "es");
        Due.ending(x, "s");
        Due.ending(x, "e");
        Due.read(x, "go goes goe goee ges g es eses goeses gos on goes ons go one.");
        int[] over = {1, 5, 1, 0, 0, 0, 8, 8, 0, 3, 2, 7, 2, 3, 2};
        for (int i = 0; i < over.length; i++) {
            due.is("2: TERMS over WORD " + i, x.word(i, 4), over[i]);
        }
    }

    private static void sentences() {
        TermScan x = new TermScan();
        Due.term(x, "a b", 1, 0);
        Due.read(x, "a. b a b . a-b.a b");
        due.is("2: not over the end of a SENTENCE", x.told(6), 2);
        due.is("2: the first", x.found(0, 0), 2);
        due.is("2: the second", x.found(1, 0), 4);
        due.is("15: SENTENCE of WORD 1", x.word(1, 1), 1);
        due.is("15: REACH of WORD 1", x.word(1, 3), 0);
        due.is("15: SENTENCE of WORD 6", x.word(6, 1), 3);
        x.read(',');
        due.is("2: the WORD that came has ended", x.told(6), 3);
        mendedIs("20: points", x, "a. b a b. a b. a b");
        x.read('.');
        mendedIs("20: the last point", x, "a. b a b. a b. a b.");
    }

    private static void reach() {
        TermScan x = new TermScan();
        Due.term(x, "a b a c", 1, 0);
        Due.term(x, "b a", 1, 1);
        Due.ending(x, "s");
        Due.read(x, "a b a b a c. c b as a b as c a. b");
        x.read(' ');
        int[] want = {1, 2, 3, 2, 3, 4, 0, 1, 2, 1, 2, 2, 0, 1, 1};
        for (int i = 0; i < want.length; i++) {
            due.is("15: REACH of WORD " + i, x.word(i, 3), want[i]);
        }
    }

    private static void told() {
        TermScan x = new TermScan();
        Due.term(x, "red car", 2, 0);
        Due.term(x, "car", 1, 0);
        Due.term(x, "motor car", 1, 0);
        Due.ending(x, "s");
        x.forbid(1, 2);
        x.forbid(0, 2);
        Due.spell(x, "sl ip");
        Due.read(x, "a red car. car is red. ca");
        int[] want = {3, 1, 5, 6, 2, 2, 3, 2, 5, 3, 2, 30, 3};
        for (int what = 0; what < want.length; what++) {
            due.is("16: told(" + what + ")", x.told(what), want[what]);
        }
        mendedIs("16", x, "a motor car. motor car is red.");
        for (int what : new int[] {13, -1, Integer.MIN_VALUE, Integer.MAX_VALUE}) {
            due.is("16: told(" + what + ")", x.told(what), OUTSIDE);
        }
    }

    private static void found() {
        TermScan x = new TermScan();
        Due.term(x, "b", 3, 0);
        Due.term(x, "a b", 2, 0);
        Due.term(x, "a", 1, 0);
        Due.read(x, "a b a. b ");
        int[][] want = {{0, 1, 4, 1}, {0, 2, 1, 0}, {1, 0, 3, 0}, {2, 2, 1, 1}, {3, 0, 3, 1}};
        for (int k = 0; k < want.length; k++) {
            for (int what = 0; what < 4; what++) {
                due.is("17: found(" + k + ", " + what + ")", x.found(k, what), want[k][what]);
            }
        }
        due.is("17: not so many", x.found(5, 0), NONE);
        due.is("17: not so many", x.found(5, 3), NONE);
        due.is("17: not so many", x.found(Integer.MAX_VALUE, 0), NONE);
        due.is("17: k below 0", x.found(-1, 0), OUTSIDE);
        due.is("17: k below 0", x.found(Integer.MIN_VALUE, 0), OUTSIDE);
        for (int what : new int[] {4, -1, Integer.MIN_VALUE, Integer.MAX_VALUE}) {
            due.is("17: found(0, " + what + ")", x.found(0, what), OUTSIDE);
            due.is("17: found(99, " + what + ")", x.found(99, what), OUTSIDE);
        }
    }

    private static void chosenAre(String what, TermScan x, int... wordThenTerm) {
        due.is(what + ", how many", x.told(7), wordThenTerm.length / 2);
        for (int k = 0; k < wordThenTerm.length / 2; k++) {
            due.is(what + ", chosen(" + k + ", 0)", x.chosen(k, 0), wordThenTerm[2 * k]);
            due.is(what + ", chosen(" + k + ", 1)", x.chosen(k, 1), wordThenTerm[2 * k + 1]);
        }
    }

    private static void chosenByWorth() {
        TermScan x = new TermScan();
        Due.term(x, "a b", 3, 0);
        Due.term(x, "b c", 4, 0);
        Due.term(x, "c d", 3, 0);
        Due.read(x, "a b c d ");
        chosenAre("18: two lesser ones weigh more", x, 0, 0, 2, 2);
        x.change(1, 0, 7);
        chosenAre("18: one weighs more than two", x, 1, 1);
    }

    private static void chosenByFewest() {
        TermScan x = new TermScan();
        Due.term(x, "a", 2, 0);
        Due.term(x, "b", 2, 0);
        Due.term(x, "a b", 2, 0);
        Due.read(x, "a b ");
        chosenAre("18: of like WORTH the fewest", x, 0, 2);
        x.change(1, 0, 3);
        chosenAre("18: WORTH comes ahead", x, 0, 0, 1, 1);
    }

    private static void chosenByFirst() {
        TermScan x = new TermScan();
        Due.term(x, "b c", 1, 0);
        Due.term(x, "a b", 1, 0);
        Due.read(x, "a b c ");
        chosenAre("18: of like ones that which begins sooner", x, 0, 1);
    }

    private static void chosenByWords() {
        TermScan x = new TermScan();
        Due.term(x, "a", 2, 0);
        Due.term(x, "a b", 1, 0);
        Due.read(x, "a b ");
        chosenAre("18: of like ones that with more WORDS", x, 0, 1);
    }

    private static void chosenByTerm() {
        TermScan x = new TermScan();
        Due.term(x, "as", 1, 1);
        Due.term(x, "a", 1, 1);
        Due.ending(x, "s");
        Due.read(x, "as ");
        due.is("18: both are FOUND", x.told(6), 2);
        chosenAre("18: of like ones that of the lesser TERM", x, 0, 0);
    }

    private static void chosenFacts() {
        TermScan x = new TermScan();
        Due.term(x, "a b", 3, 0);
        Due.term(x, "c", 2, 0);
        Due.term(x, "d", 9, 0);
        x.forbid(0, 2);
        Due.read(x, "a b c a b ");
        int[][] want = {{0, 0, 6, 2}, {2, 1, 2, NONE}, {3, 0, 6, 2}};
        for (int k = 0; k < want.length; k++) {
            for (int what = 0; what < 4; what++) {
                due.is("18: chosen(" + k + ", " + what + ")", x.chosen(k, what), want[k][what]);
            }
        }
        due.is("18: not so many", x.chosen(3, 0), NONE);
        due.is("18: not so many", x.chosen(Integer.MAX_VALUE, 3), NONE);
        due.is("18: k below 0", x.chosen(-1, 0), OUTSIDE);
        due.is("18: k below 0", x.chosen(Integer.MIN_VALUE, 0), OUTSIDE);
        for (int what : new int[] {4, -1, Integer.MIN_VALUE, Integer.MAX_VALUE}) {
            due.is("18: chosen(0, " + what + ")", x.chosen(0, what), OUTSIDE);
            due.is("18: chosen(99, " + what + ")", x.chosen(99, what), OUTSIDE);
        }
    }

    private static void longest() {
        TermScan x = new TermScan();
        due.is("19: none there", x.longest(0), UNKNOWN);
        Due.term(x, "a", 9, 0);
        Due.term(x, "a b", 1, 0);
        Due.term(x, "as b", 2, 1);
        Due.term(x, "a bs", 2, 1);
        Due.ending(x, "s");
        Due.read(x, "a b as b as bs c");
        due.is("19: most WORDS", x.longest(0), 1);
        due.is("19: it begins ahead", x.longest(1), NONE);
        due.is("19: as b", x.longest(2), 2);
        due.is("19: of like ones the least", x.longest(4), 2);
        x.change(3, 0, 3);
        due.is("19: of like ones of the greatest WEIGHT", x.longest(4), 3);
        for (int v : BELOW_AND_ABOVE) {
            due.is("19: longest(" + v + ")", x.longest(v), UNKNOWN);
        }
        due.is("19: the WORD that comes", x.longest(6), UNKNOWN);
        x.read(' ');
        due.is("19: nothing is FOUND", x.longest(6), NONE);
    }

    private static void sign() {
        TermScan x = new TermScan();
        Due.term(x, "car", 2, 1);
        Due.term(x, "motor   car", 1, 0);
        Due.term(x, "old car", 3, 0);
        Due.ending(x, "s");
        Due.read(x, "Cars,cars  an old car. car");
        mendedIs("20: nothing FORBIDDEN", x, "ars cars an old car.");
        x.forbid(0, 1);
        mendedIs("20: one FORBIDDEN, as it was spelled", x, "ars motor car an old car.");
        x.forbid(2, 1);
        mendedIs("20: over the end of a SENTENCE", x, "ars motor car an motor car.");
        x.read('!');
        mendedIs("20: no point yet", x, "ars motor car an motor car. motor car");
        x.read('.');
        mendedIs("20: a point", x, "ars motor car an motor car. motor car.");
        due.is("20: the first", x.sign(0), 'a');
        due.is("20: the last", x.sign(x.told(11) - 1), '.');
        due.is("20: not so many", x.sign(x.told(11)), NONE);
        due.is("20: not so many", x.sign(Integer.MAX_VALUE), NONE);
        due.is("20: below 0", x.sign(-1), OUTSIDE);
        due.is("20: below 0", x.sign(Integer.MIN_VALUE), OUTSIDE);
    }

    private static void mendedAtItsLongest() {
        TermScan x = new TermScan();
        Due.term(x, "a", 1, 0);
        Due.term(x, "zzzzzzzzzzzz yyyyyyyyyyyy xxxxxxxxxxxx wwwwwwwwwww", 1, 0);
        x.forbid(0, 1);
        for (int i = 0; i < 60; i++) {
            Due.read(x, "a.");
        }
        due.is("20: its signs", x.told(11), 60 * 52 - 1);
        due.is("20: its last", x.sign(60 * 52 - 2), '.');
        due.is("20: the one ahead of it", x.sign(60 * 52 - 3), 'w');
        due.is("20: not so many", x.sign(60 * 52 - 1), NONE);
    }

    private static void same() {
        TermScan x = new TermScan();
        Due.read(x, "ab ba ab. abc abcdefghijkl abcdefghijklm abcdefghijklm abcdefghijkl ab");
        due.is("21: the same", x.same(0, 2), 1);
        due.is("21: the same, turned round", x.same(2, 0), 1);
        due.is("21: others", x.same(0, 1), 0);
        due.is("21: longer", x.same(0, 3), 0);
        due.is("21: twelve letters", x.same(4, 7), 1);
        due.is("21: one TOO LONG", x.same(4, 5), 0);
        due.is("21: one TOO LONG, turned round", x.same(5, 4), 0);
        due.is("21: both TOO LONG", x.same(5, 6), 0);
        due.is("21: one twice", x.same(0, 0), UNKNOWN);
        due.is("21: the WORD that comes", x.same(0, 8), UNKNOWN);
        for (int v : BELOW_AND_ABOVE) {
            due.is("21: same(0, " + v + ")", x.same(0, v), UNKNOWN);
            due.is("21: same(" + v + ", 0)", x.same(v, 0), UNKNOWN);
        }
    }

    private static void changesWhileTextStands() {
        TermScan x = new TermScan();
        Due.read(x, "red cars. blue car ");
        due.is("no TERMS", x.told(6), 0);
        Due.term(x, "car", 1, 1);
        due.is("a TERM comes", x.told(6), 1);
        Due.ending(x, "s");
        due.is("an ENDING comes", x.told(6), 2);
        Due.term(x, "auto", 1, 0);
        x.forbid(0, 1);
        due.is("it is FORBIDDEN", x.told(10), 2);
        mendedIs("it is FORBIDDEN", x, "red auto. blue auto");
        x.allow(0);
        due.is("it is ALLOWED", x.told(10), 0);
        mendedIs("it is ALLOWED", x, "red cars. blue car");
        x.change(0, 0, 5);
        due.is("it is weighed anew", x.told(8), 10);
        x.change(0, 1, 0);
        due.is("it is not BENT", x.told(6), 1);
        Due.read(x, "car ");
        due.is("more is read", x.told(6), 2);
        x.dropTerm(0);
        due.is("it goes", x.told(6), 0);
    }
}
