import java.util.function.Consumer;

/**
 * The boundary cases of promises 1 to 11, 22 and 23, a test for each sentence that names one: the last that is
 * allowed, the first that is not, on both sides, and that a refused call changes nothing but what the document names.
 */
public final class TermEdgesTest {
    private static final int NONE = TermScan.NONE, UNKNOWN = TermScan.UNKNOWN, OUTSIDE = TermScan.OUTSIDE,
            NOT = TermScan.NOT, FULL = TermScan.FULL;
    private static final int LEAST = Integer.MIN_VALUE, GREATEST = Integer.MAX_VALUE;
    /** Numbers that no TERM, ENDING or IMAGE ever has. */
    private static final int[] FAR = {LEAST, LEAST + 1, FULL, UNKNOWN, -2, -1, 8, 9, 32, 256, GREATEST - 1, GREATEST};
    private static final String TWELVE = "abcdefghijkl", THIRTEEN = "abcdefghijklm";

    private static final Due due = new Due();

    public static void main(String[] args) {
        refusalsAreFarBelow();
        newObject();
        spell();
        termBounds();
        termNumbers();
        termWithoutWord();
        termOfFiveWords();
        termOfThirteenLetters();
        termTwice();
        termFull();
        ending();
        endingTwice();
        endingFull();
        dropTerm();
        dropPreferred();
        preferredByAnyOne();
        numbersBehindATerm();
        dropEnding();
        forbid();
        forbidAnew();
        allow();
        change();
        termOf();
        letter();
        keep();
        goBack();
        imagesAtTheirMost();
        changesBehindTheText();
        due.finish("TermEdgesTest");
    }

    /** What is refused because of THE SLIP empties it, and changes nothing else. */
    private static void slipGoes(String what, Scene scene, String slip, Consumer<TermScan> call) {
        Scene bare = scene.then(TermEdgesTest::emptySlip);
        due.alike(what + ": THE SLIP is empty, nothing else has changed", bare.then(x -> Due.spell(x, slip)).then(call), bare);
    }

    /** What the scenes have on THE SLIP is no ENDING, so this only empties it. */
    private static void emptySlip(TermScan x) {
        x.ending();
    }

    private static void termIsRefused(String what, Scene scene, String slip, int want) {
        TermScan x = scene.then(TermEdgesTest::emptySlip).make();
        due.is("3: " + what, Due.term(x, slip, 1, 0), want);
        slipGoes("3: " + what, scene, slip, y -> y.term(1, 0));
    }

    private static void endingIsRefused(String what, Scene scene, String slip, int want) {
        TermScan x = scene.then(TermEdgesTest::emptySlip).make();
        due.is("4: " + what, Due.ending(x, slip), want);
        slipGoes("4: " + what, scene, slip, TermScan::ending);
    }

    // ---- the numbers that are answered

    private static void refusalsAreFarBelow() {
        int[] inOrder = {NONE, UNKNOWN, OUTSIDE, NOT, FULL};
        int[] want = {-1, -1000000001, -1000000002, -1000000003, -1000000004};
        for (int i = 0; i < want.length; i++) {
            due.is("the refusals, number " + i, inOrder[i], want[i]);
        }
    }

    // ---- promise 1

    private static void newObject() {
        TermScan x = new TermScan();
        due.is("1: no TERMS", x.told(0), 0);
        due.is("1: no TERM 0", x.termOf(0, 0), UNKNOWN);
        due.is("1: none to go", x.dropTerm(0), UNKNOWN);
        due.is("1: none to be FORBIDDEN", x.forbid(0, 1), UNKNOWN);
        due.is("1: none to be ALLOWED", x.allow(0), UNKNOWN);
        due.is("1: none to be changed", x.change(0, 0, 1), UNKNOWN);
        due.is("1: none with letters", x.letter(0, 0, 0), UNKNOWN);
        due.is("1: no ENDINGS", x.told(1), 0);
        due.is("1: no ENDING 0", x.letter(0, NONE, 0), UNKNOWN);
        due.is("1: no ENDING to go", x.dropEnding(0), UNKNOWN);
        due.is("1: nothing on THE SLIP", x.told(2), 0);
        due.is("1: no WORDS", x.told(3), 0);
        due.is("1: no WORD 0", x.word(0, 0), UNKNOWN);
        due.is("1: nothing longest at it", x.longest(0), UNKNOWN);
        due.is("1: no two", x.same(0, 1), UNKNOWN);
        due.is("1: no SENTENCE", x.told(4), 0);
        due.is("1: no WORD that comes", x.told(5), 0);
        due.is("1: nothing FOUND", x.found(0, 0), NONE);
        due.is("1: nothing CHOSEN", x.chosen(0, 0), NONE);
        due.is("1: nothing MENDED", x.sign(0), NONE);
        due.is("1: no TEXT to go", x.wipe(), 0);
        due.is("1: IMAGE 0 was not kept", x.goBack(0), NOT);
        due.is("1: IMAGE 1 was not kept", x.goBack(1), NOT);
        due.alike("1: another object's calls are no part of it", new Scene(y -> Scene.MOST.make()), Scene.NEW);
    }

    // ---- promise 2

    private static void spell() {
        for (int sign = -40; sign <= 400; sign++) {
            boolean fits = sign == 32 || sign >= 97 && sign <= 122;
            due.is("2: spell(" + sign + ")", new TermScan().spell(sign), fits ? 1 : OUTSIDE);
        }
        for (int sign : new int[] {LEAST, NONE, 0, 31, 33, 46, 64, 96, 123, 97 + 256, 97 - 256, 97 + 65536, GREATEST}) {
            due.refused("2: another sign, " + sign, Scene.SOME, x -> x.spell(sign), OUTSIDE);
            due.refused("2: another sign on a full SLIP, " + sign, Scene.MOST, x -> x.spell(sign), OUTSIDE);
        }
        for (int sign : new int[] {97, 122, 32}) {
            TermScan x = new TermScan();
            for (int i = 1; i <= 50; i++) {
                due.is("2: sign " + i, x.spell(sign), i);
            }
            due.is("2: a fifty-first", x.spell(sign), FULL);
            due.is("2: how many there are then", x.told(2), 50);
            due.refused("2: a fifty-first, " + sign, Scene.MOST, y -> y.spell(sign), FULL);
        }
        TermScan x = Scene.MOST.make();
        x.ending();
        due.is("2: an empty SLIP has room", x.spell(97), 1);
    }

    // ---- promise 3

    private static void termBounds() {
        for (int weight = 1; weight <= 9; weight++) {
            TermScan x = new TermScan();
            due.is("3: WEIGHT " + weight, Due.term(x, "a", weight, 0), 0);
            due.is("3: it is that", x.termOf(0, 1), weight);
        }
        for (int bent = 0; bent <= 1; bent++) {
            TermScan x = new TermScan();
            due.is("3: BENT " + bent, Due.term(x, "a", 1, bent), 0);
            due.is("3: it is that", x.termOf(0, 2), bent);
        }
        for (Scene scene : new Scene[] {Scene.NEW, Scene.SOME, Scene.MOST}) {
            for (int weight : new int[] {LEAST, UNKNOWN, -1, 0, 10, 257, GREATEST}) {
                due.refused("3: THE SLIP stays, WEIGHT " + weight, scene, x -> x.term(weight, 0), OUTSIDE);
                due.refused("3: THE SLIP stays, WEIGHT " + weight + ", BENT", scene, x -> x.term(weight, 1), OUTSIDE);
            }
            for (int bent : new int[] {LEAST, -1, 2, 256, GREATEST}) {
                due.refused("3: THE SLIP stays, BENT " + bent, scene, x -> x.term(1, bent), OUTSIDE);
                due.refused("3: THE SLIP stays, BENT " + bent, scene, x -> x.term(9, bent), OUTSIDE);
            }
        }
    }

    private static void termNumbers() {
        TermScan x = new TermScan();
        for (int t = 0; t < 8; t++) {
            due.is("3: its number", Due.term(x, "w" + (char) ('a' + t), 1 + t, t % 2), t);
            due.is("3: THE SLIP is empty then", x.told(2), 0);
            due.is("3: ALLOWED", x.termOf(t, 3), NONE);
            due.is("3: how many", x.told(0), t + 1);
        }
        due.is("3: none is FORBIDDEN", x.told(12), 0);
        x.forbid(7, 0);
        x.dropTerm(7);
        due.is("3: one that comes where a FORBIDDEN one went", Due.term(x, "new", 2, 0), 7);
        due.is("3: is ALLOWED", x.termOf(7, 3), NONE);
        due.is("3: has its own WEIGHT", x.termOf(7, 1), 2);
        due.is("3: has its own letters", x.letter(7, 0, 2), 'w');
    }

    private static void termWithoutWord() {
        for (Scene scene : new Scene[] {Scene.NEW, Scene.SOME, Scene.MOST}) {
            termIsRefused("no sign", scene, "", NOT);
            termIsRefused("a blank", scene, " ", NOT);
            termIsRefused("50 blanks", scene, " ".repeat(50), NOT);
        }
        due.is("3: a letter alone is a WORD", Due.term(new TermScan(), "a", 1, 0), 0);
        due.is("3: the last of 50 signs is a WORD", Due.term(new TermScan(), " ".repeat(49) + "z", 1, 0), 0);
        due.is("3: the first of 50 signs is a WORD", Due.term(new TermScan(), "z" + " ".repeat(49), 1, 0), 0);
    }

    private static void termOfFiveWords() {
        String[] four = {"a b c d", " a  b   c    d     ", "d c b a", "a a a a"};
        for (String words : four) {
            TermScan x = new TermScan();
            due.is("3: four WORDS '" + words + "'", Due.term(x, words, 1, 0), 0);
            due.is("3: it has four", x.termOf(0, 0), 4);
        }
        for (Scene scene : new Scene[] {Scene.NEW, Scene.SOME, Scene.MOST}) {
            termIsRefused("five WORDS", scene, "v w x y z", NOT);
            termIsRefused("five WORDS, blanks about them", scene, "  v w x y z ", NOT);
            termIsRefused("25 WORDS", scene, "z ".repeat(25), NOT);
        }
        TermScan x = Scene.NEW.make();
        Due.term(x, "v w x y z", 1, 0);
        due.is("3: four behind five that were refused", Due.term(x, "v w x y", 1, 0), 0);
        due.is("3: one behind four", Due.term(x, "z", 1, 0), 1);
        due.is("3: it has one", x.termOf(1, 0), 1);
    }

    private static void termOfThirteenLetters() {
        String[] ahead = {"", "q ", "q r ", "q r s "};
        for (int k = 0; k < ahead.length; k++) {
            TermScan x = new TermScan();
            due.is("3: twelve letters, WORD " + k, Due.term(x, ahead[k] + TWELVE, 1, 0), 0);
            due.is("3: its twelfth", x.letter(0, k, 11), 'l');
            termIsRefused("thirteen letters, WORD " + k, Scene.NEW, ahead[k] + THIRTEEN, NOT);
            termIsRefused("thirteen letters, WORD " + k, Scene.SOME, ahead[k] + THIRTEEN, NOT);
            termIsRefused("thirteen letters, WORD " + k, Scene.MOST, ahead[k] + THIRTEEN, NOT);
        }
        termIsRefused("thirteen letters ahead of a WORD", Scene.SOME, THIRTEEN + " q", NOT);
        termIsRefused("50 letters", Scene.SOME, "z".repeat(50), NOT);
        termIsRefused("thirteen times the last letter", Scene.SOME, "z".repeat(13), NOT);
        TermScan x = new TermScan();
        Due.term(x, THIRTEEN, 1, 0);
        due.is("3: its first twelve are another", Due.term(x, TWELVE, 1, 0), 0);
        due.is("3: twelve times the last letter", Due.term(x, "z".repeat(12), 1, 0), 1);
        due.is("3: three twelves and eleven are 50 signs", Due.term(x, (TWELVE + " ").repeat(3) + "zzzzzzzzzzz", 1, 0), 2);
        due.is("3: the last letter of all", x.letter(2, 3, 10), 'z');
        due.is("3: there is none behind it", x.letter(2, 3, 11), NONE);
    }

    private static void termTwice() {
        Scene scene = Scene.NEW.then(x -> {
            Due.term(x, "ab cd", 3, 0);
            Due.term(x, "b", 1, 0);
            Due.term(x, TWELVE, 1, 0);
            Due.term(x, "w x y z", 1, 0);
            x.forbid(0, 1);
            Due.read(x, "ab cd b ");
        });
        for (String words : new String[] {"ab cd", " ab cd", "ab cd ", "ab     cd", "b", TWELVE, "w x y z"}) {
            termIsRefused("there is such a TERM '" + words + "'", scene, words, NOT);
        }
        TermScan x = scene.make();
        due.is("3: such a one with another WEIGHT, BENT", Due.term(x, "ab cd", 9, 1), NOT);
        due.is("3: which stays as it was", x.termOf(0, 1), 3);
        for (String words : new String[] {"cd ab", "ab", "cd", "ab cd b", "abcd", "a bcd", "abc d", "ab ce", "bb cd",
            "abcdefghijkm", "abcdefghijk", "bbcdefghijkl", "w x y", "x y z", "w x y y", "x x y z", "ab cd ab cd"}) {
            TermScan y = scene.make();
            due.is("3: there is no such TERM '" + words + "'", Due.term(y, words, 1, 0), 4);
        }
        due.is("3: an ENDING is no TERM", Due.ending(x, "s"), 0);
        due.is("3: so the same letters may be one", Due.term(x, "s", 1, 0), 4);
        due.is("3: one that has gone", x.dropTerm(0), 4);
        due.is("3: may come again", Due.term(x, "ab cd", 1, 0), 4);
        due.is("3: once", Due.term(x, "ab cd", 1, 0), NOT);
    }

    private static void termFull() {
        termIsRefused("a ninth", Scene.MOST, "new", FULL);
        termIsRefused("a ninth of four WORDS", Scene.MOST, "n e w s", FULL);
        termIsRefused("NOT comes ahead of FULL, one that there is", Scene.MOST, "a a a a", NOT);
        termIsRefused("NOT comes ahead of FULL, one that there is FORBIDDEN", Scene.MOST, "a b", NOT);
        TermScan x = Scene.MOST.then(TermEdgesTest::emptySlip).make();
        Due.spell(x, "new");
        due.is("3: OUTSIDE comes ahead of FULL", x.term(10, 0), OUTSIDE);
        due.is("3: and leaves THE SLIP", x.told(2), 3);
        due.is("3: FULL", x.term(9, 0), FULL);
        due.is("3: and empties THE SLIP", x.told(2), 0);
        due.is("3: there are eight", x.told(0), 8);
        due.is("3: one goes", x.dropTerm(7), 7);
        due.is("3: an eighth", Due.term(x, "new", 9, 0), 7);
        due.is("3: a ninth again", Due.term(x, "newer", 9, 0), FULL);
    }

    // ---- promise 4

    private static void ending() {
        String letters = "wxyz";
        for (int size = 1; size <= 4; size++) {
            TermScan x = new TermScan();
            due.is("4: letters, " + size, Due.ending(x, letters.substring(0, size)), 0);
            due.is("4: THE SLIP is empty then", x.told(2), 0);
            due.is("4: its last letter", x.letter(0, NONE, size - 1), letters.charAt(size - 1));
            due.is("4: there is none behind it", x.letter(0, NONE, size), NONE);
        }
        due.is("4: blanks about it", Due.ending(new TermScan(), "   wxyz  "), 0);
        for (Scene scene : new Scene[] {Scene.NEW, Scene.SOME, Scene.MOST}) {
            endingIsRefused("no sign", scene, "", NOT);
            endingIsRefused("a blank", scene, " ", NOT);
            endingIsRefused("50 blanks", scene, " ".repeat(50), NOT);
            endingIsRefused("five letters", scene, "vwxyz", NOT);
            endingIsRefused("twelve letters", scene, TWELVE, NOT);
            endingIsRefused("thirteen letters", scene, THIRTEEN, NOT);
            endingIsRefused("50 letters", scene, "z".repeat(50), NOT);
            endingIsRefused("two WORDS", scene, "y z", NOT);
            endingIsRefused("four WORDS", scene, "w x y z", NOT);
            endingIsRefused("five WORDS", scene, "v w x y z", NOT);
        }
        TermScan x = new TermScan();
        Due.ending(x, "vwxyz");
        due.is("4: four behind five that were refused", Due.ending(x, "vwxy"), 0);
    }

    private static void endingTwice() {
        Scene scene = Scene.NEW.then(x -> {
            Due.ending(x, "s");
            Due.ending(x, "abcd");
            Due.term(x, "go", 1, 1);
        });
        endingIsRefused("there is such an ENDING", scene, "s", NOT);
        endingIsRefused("there is such an ENDING, blanks about it", scene, "  s ", NOT);
        endingIsRefused("there is such an ENDING of four letters", scene, "abcd", NOT);
        for (String letters : new String[] {"ss", "abc", "bcd", "abce", "bbcd", "d", "go"}) {
            due.is("4: there is no such ENDING '" + letters + "'", Due.ending(scene.make(), letters), 2);
        }
        TermScan x = scene.make();
        due.is("4: one that has gone", x.dropEnding(0), 1);
        due.is("4: may come again", Due.ending(x, "s"), 1);
    }

    private static void endingFull() {
        TermScan x = new TermScan();
        for (int e = 0; e < 5; e++) {
            due.is("4: its number", Due.ending(x, "e" + (char) ('a' + e)), e);
            due.is("4: how many", x.told(1), e + 1);
        }
        due.is("4: a sixth", Due.ending(x, "new"), FULL);
        due.is("4: there are five", x.told(1), 5);
        endingIsRefused("a sixth", Scene.MOST, "new", FULL);
        endingIsRefused("a sixth of four letters", Scene.MOST, "news", FULL);
        endingIsRefused("NOT comes ahead of FULL", Scene.MOST, "abcd", NOT);
        due.is("4: one goes", x.dropEnding(4), 4);
        due.is("4: a fifth", Due.ending(x, "new"), 4);
        due.is("4: a sixth again", Due.ending(x, "newe"), FULL);
    }

    // ---- promise 5

    private static void dropTerm() {
        for (int t : FAR) {
            due.refused("5: no TERM " + t, Scene.NEW, x -> x.dropTerm(t), UNKNOWN);
            due.refused("5: no TERM " + t, Scene.SOME, x -> x.dropTerm(t), UNKNOWN);
            due.refused("5: no TERM " + t, Scene.MOST, x -> x.dropTerm(t), UNKNOWN);
        }
        due.refused("5: no TERM 0", Scene.NEW, x -> x.dropTerm(0), UNKNOWN);
        due.refused("5: one behind the last", Scene.SOME, x -> x.dropTerm(3), UNKNOWN);
        due.is("5: the last", Scene.SOME.make().dropTerm(0), 2);
        TermScan x = new TermScan();
        Due.term(x, "a", 1, 0);
        due.is("5: the only one", x.dropTerm(0), 0);
        due.is("5: then there is none", x.dropTerm(0), UNKNOWN);
        TermScan y = Scene.MOST.make();
        due.is("5: the last of eight", y.dropTerm(7), 7);
        due.is("5: then there is none", y.dropTerm(7), UNKNOWN);
        due.is("5: the first of seven", y.dropTerm(0), 6);
    }

    private static void dropPreferred() {
        due.refused("5: it is PREFERRED", Scene.SOME, x -> x.dropTerm(2), NOT);
        due.refused("5: it is PREFERRED by two", Scene.MOST, x -> x.dropTerm(6), NOT);
        due.refused("5: it is PREFERRED by one", Scene.MOST, x -> x.dropTerm(3), NOT);
        TermScan x = Scene.MOST.make();
        x.allow(0);
        due.is("5: one that PREFERS it is left", x.dropTerm(6), NOT);
        x.dropTerm(2);
        due.is("5: none that PREFERS it is left", x.dropTerm(5), 6);
        TermScan y = Scene.SOME.make();
        due.is("5: one FORBIDDEN goes", y.dropTerm(1), 2);
        due.is("5: and then the one it PREFERRED", y.dropTerm(1), 1);
    }

    /** TERM t has t % 4 + 1 WORDS, so that none behind it could be taken for it. */
    private static Scene eightTerms() {
        return Scene.NEW.then(x -> {
            for (int t = 0; t < 8; t++) {
                Due.term(x, "w" + (char) ('a' + t) + " x".repeat(t % 4), 1 + t, t % 2);
            }
        });
    }

    private static void preferredByAnyOne() {
        for (int t = 0; t < 8; t++) {
            for (int u = 0; u < 8; u++) {
                if (t != u) {
                    TermScan x = eightTerms().make();
                    due.is("7: " + t + " in favour of " + u, x.forbid(t, u), 1);
                    due.is("7: a SET", x.told(12), 1 << t);
                    due.is("5: " + u + " is PREFERRED by " + t, x.dropTerm(u), NOT);
                    int other = neither(t, u);
                    due.is("7: " + u + " is PREFERRED itself", x.forbid(u, other), NOT);
                    due.is("7: " + t + " is FORBIDDEN", x.forbid(other, t), NOT);
                    due.is("8: " + u + " is ALLOWED", x.allow(u), NOT);
                    due.is("5: " + t + " goes", x.dropTerm(t), 7);
                    due.is("5: and then " + u, x.dropTerm(u > t ? u - 1 : u), 6);
                }
            }
        }
    }

    private static int neither(int t, int u) {
        int other = 0;
        while (other == t || other == u) {
            other++;
        }
        return other;
    }

    private static void numbersBehindATerm() {
        Scene scene = eightTerms().then(x -> {
            x.forbid(0, 3);
            x.forbid(7, 3);
            x.forbid(2, 4);
        });
        for (int gone : new int[] {0, 1, 2, 5, 6, 7}) {
            TermScan x = scene.make();
            due.is("5: left when " + gone + " goes", x.dropTerm(gone), 7);
            for (int t = 0; t < 7; t++) {
                int was = t < gone ? t : t + 1;
                due.is("5: letters of " + t, x.letter(t, 0, 1), 'a' + was);
                due.is("5: WORDS of " + t, x.termOf(t, 0), was % 4 + 1);
                due.is("5: WEIGHT of " + t, x.termOf(t, 1), 1 + was);
                due.is("5: BENT of " + t, x.termOf(t, 2), was % 2);
                int prefers = was == 0 || was == 7 ? 3 : was == 2 ? 4 : NONE;
                due.is("5: what " + t + " PREFERS, when " + gone + " goes", x.termOf(t, 3), prefers > gone ? prefers - 1 : prefers);
            }
            due.is("5: no eighth", x.termOf(7, 0), UNKNOWN);
        }
    }

    // ---- promise 6

    private static void dropEnding() {
        for (int e : FAR) {
            due.refused("6: no ENDING " + e, Scene.NEW, x -> x.dropEnding(e), UNKNOWN);
            due.refused("6: no ENDING " + e, Scene.SOME, x -> x.dropEnding(e), UNKNOWN);
            due.refused("6: no ENDING " + e, Scene.MOST, x -> x.dropEnding(e), UNKNOWN);
        }
        due.refused("6: no ENDING 0", Scene.NEW, x -> x.dropEnding(0), UNKNOWN);
        due.refused("6: one behind the last", Scene.SOME, x -> x.dropEnding(2), UNKNOWN);
        due.refused("6: one behind the fifth", Scene.MOST, x -> x.dropEnding(5), UNKNOWN);
        char[] firsts = {'s', 'e', 'e', 'a', 'a'};
        int[] sizes = {1, 1, 2, 2, 4};
        for (int gone = 0; gone < 5; gone++) {
            TermScan x = Scene.MOST.make();
            due.is("6: left when " + gone + " goes", x.dropEnding(gone), 4);
            for (int e = 0; e < 4; e++) {
                int was = e < gone ? e : e + 1;
                due.is("6: first letter of " + e, x.letter(e, NONE, 0), firsts[was]);
                due.is("6: last letter of " + e + " is not the end", x.letter(e, NONE, sizes[was] - 1) > 0 ? 1 : 0, 1);
                due.is("6: behind the last letter of " + e, x.letter(e, NONE, sizes[was]), NONE);
            }
            due.is("6: no fifth", x.letter(4, NONE, 0), UNKNOWN);
        }
        TermScan x = new TermScan();
        Due.ending(x, "s");
        due.is("6: the only one", x.dropEnding(0), 0);
        due.is("6: then there is none", x.dropEnding(0), UNKNOWN);
    }

    // ---- promise 7

    private static void forbid() {
        for (int t : FAR) {
            due.refused("7: forbid(" + t + ", 0)", Scene.SOME, x -> x.forbid(t, 0), UNKNOWN);
            due.refused("7: forbid(0, " + t + ")", Scene.SOME, x -> x.forbid(0, t), UNKNOWN);
            due.refused("7: forbid(" + t + ", " + t + ")", Scene.MOST, x -> x.forbid(t, t), UNKNOWN);
            due.is("7: UNKNOWN comes ahead of NOT, it is PREFERRED, u " + t, Scene.SOME.make().forbid(2, t), UNKNOWN);
            due.is("7: UNKNOWN comes ahead of NOT, u is FORBIDDEN, t " + t, Scene.SOME.make().forbid(t, 1), UNKNOWN);
        }
        due.refused("7: t is one behind the last", Scene.SOME, x -> x.forbid(3, 0), UNKNOWN);
        due.refused("7: u is one behind the last", Scene.SOME, x -> x.forbid(0, 3), UNKNOWN);
        due.refused("7: there is but one", Scene.NEW.then(x -> Due.term(x, "a", 1, 0)), x -> x.forbid(0, 1), UNKNOWN);
        for (int t = 0; t < 8; t++) {
            int n = t;
            due.refused("7: one twice, " + t, Scene.MOST, x -> x.forbid(n, n), UNKNOWN);
        }
        due.refused("7: it is PREFERRED itself", Scene.SOME, x -> x.forbid(2, 0), NOT);
        due.refused("7: u is FORBIDDEN", Scene.SOME, x -> x.forbid(0, 1), NOT);
        due.refused("7: it is PREFERRED itself, by u", Scene.SOME, x -> x.forbid(2, 1), NOT);
        due.refused("7: it is PREFERRED by two", Scene.MOST, x -> x.forbid(6, 7), NOT);
        due.refused("7: u is FORBIDDEN, and so is it", Scene.MOST, x -> x.forbid(0, 2), NOT);
        due.is("7: the last, in favour of the first", Scene.SOME.make().forbid(0, 2), 2);
    }

    private static void forbidAnew() {
        TermScan x = Scene.NEW.make();
        for (int t = 0; t < 8; t++) {
            Due.term(x, "w" + (char) ('a' + t), 1, 0);
        }
        for (int t = 0; t < 7; t++) {
            due.is("7: how many are FORBIDDEN", x.forbid(t, 7), t + 1);
        }
        due.is("7: all but one, a SET", x.told(12), 127);
        due.is("7: the one that is left is PREFERRED", x.forbid(7, 0), NOT);
        due.is("7: again, in favour of the same", x.forbid(3, 7), 7);
        due.is("7: it is that", x.termOf(3, 3), 7);
        x.allow(5);
        due.is("7: one FORBIDDEN, in favour of another", x.forbid(3, 5), 6);
        due.is("7: it is that", x.termOf(3, 3), 5);
        due.is("7: which is PREFERRED then", x.forbid(5, 7), NOT);
        due.is("7: a SET", x.told(12), 127 - 32);
        TermScan y = new TermScan();
        for (int t = 0; t < 8; t++) {
            Due.term(y, "w" + (char) ('a' + t), 1, 0);
        }
        for (int t = 1; t < 8; t++) {
            y.forbid(t, 0);
        }
        due.is("7: all but the first, a SET", y.told(12), 254);
    }

    // ---- promise 8

    private static void allow() {
        for (int t : FAR) {
            due.refused("8: allow(" + t + ")", Scene.NEW, x -> x.allow(t), UNKNOWN);
            due.refused("8: allow(" + t + ")", Scene.SOME, x -> x.allow(t), UNKNOWN);
            due.refused("8: allow(" + t + ")", Scene.MOST, x -> x.allow(t), UNKNOWN);
        }
        due.refused("8: one behind the last", Scene.SOME, x -> x.allow(3), UNKNOWN);
        due.refused("8: it is ALLOWED", Scene.SOME, x -> x.allow(0), NOT);
        due.refused("8: it is ALLOWED, PREFERRED", Scene.SOME, x -> x.allow(2), NOT);
        for (int t : new int[] {1, 3, 5, 6, 7}) {
            due.refused("8: it is ALLOWED, " + t, Scene.MOST, x -> x.allow(t), NOT);
        }
        TermScan x = Scene.MOST.make();
        due.is("8: the first of three", x.allow(0), 2);
        due.is("8: twice", x.allow(0), NOT);
        due.is("8: the second", x.allow(4), 1);
        due.is("8: the last", x.allow(2), 0);
        due.is("8: a SET of none", x.told(12), 0);
        due.alike("8: FORBIDDEN and ALLOWED", Scene.NEW.then(y -> {
            Due.term(y, "a", 1, 0);
            Due.term(y, "b", 1, 0);
            y.forbid(0, 1);
            y.allow(0);
        }), Scene.NEW.then(y -> {
            Due.term(y, "a", 1, 0);
            Due.term(y, "b", 1, 0);
        }));
    }

    // ---- promise 9

    private static void change() {
        for (int v : FAR) {
            due.refused("9: no TERM " + v, Scene.SOME, x -> x.change(v, 0, 1), UNKNOWN);
            due.refused("9: no TERM " + v + ", UNKNOWN comes ahead of OUTSIDE", Scene.MOST, x -> x.change(v, 2, 10), UNKNOWN);
            due.refused("9: no what " + v, Scene.SOME, x -> x.change(0, v, 1), OUTSIDE);
            due.refused("9: BENT " + v, Scene.SOME, x -> x.change(0, 1, v), OUTSIDE);
        }
        for (int v : new int[] {LEAST, UNKNOWN, -1, 0, 10, 11, 256 + 1, GREATEST}) {
            due.refused("9: WEIGHT " + v, Scene.SOME, x -> x.change(0, 0, v), OUTSIDE);
            due.refused("9: WEIGHT " + v + " of the last", Scene.MOST, x -> x.change(7, 0, v), OUTSIDE);
        }
        for (int v : new int[] {2, 9}) {
            due.refused("9: BENT " + v, Scene.MOST, x -> x.change(7, 1, v), OUTSIDE);
            due.refused("9: no what 2, whatever v", Scene.MOST, x -> x.change(7, 2, v), OUTSIDE);
        }
        due.refused("9: one behind the last", Scene.SOME, x -> x.change(3, 0, 1), UNKNOWN);
        TermScan x = Scene.MOST.make();
        int was = 8;
        for (int weight = 9; weight >= 1; weight--) {
            due.is("9: WEIGHT " + weight + ", what it was", x.change(7, 0, weight), was);
            due.is("9: what it is", x.termOf(7, 1), weight);
            was = weight;
        }
        due.is("9: the same WEIGHT", x.change(7, 0, 1), 1);
        due.is("9: BENT 1, what it was", x.change(7, 1, 1), 0);
        due.is("9: BENT 1 again", x.change(7, 1, 1), 1);
        due.is("9: BENT 0, what it was", x.change(7, 1, 0), 1);
        due.is("9: BENT 0 again", x.change(7, 1, 0), 0);
        due.is("9: a FORBIDDEN one is changed too", x.change(0, 0, 9), 1);
        due.is("9: and stays FORBIDDEN", x.termOf(0, 3), 6);
        due.alike("9: what it was again", Scene.SOME.then(y -> {
            y.change(0, 0, 9);
            y.told(11);
            y.change(0, 0, 2);
            y.change(0, 1, 0);
            y.told(11);
            y.change(0, 1, 1);
        }), Scene.SOME);
    }

    // ---- promise 10

    private static void termOf() {
        for (int v : FAR) {
            for (int what = -1; what <= 6; what++) {
                int w = what;
                due.is("10: termOf(" + v + ", " + w + ")", Scene.SOME.make().termOf(v, w), UNKNOWN);
            }
            due.refused("10: no TERM " + v, Scene.MOST, x -> x.termOf(v, 6), UNKNOWN);
            due.refused("10: no what " + v, Scene.SOME, x -> x.termOf(2, v), OUTSIDE);
        }
        due.refused("10: one behind the last", Scene.SOME, x -> x.termOf(3, 0), UNKNOWN);
        due.refused("10: no what 6", Scene.SOME, x -> x.termOf(0, 6), OUTSIDE);
        due.refused("10: no what 6, of the last", Scene.MOST, x -> x.termOf(7, 6), OUTSIDE);
        int[] last = {4, 8, 0, NONE, 7, 7};
        int[] first = {1, 1, 1, 6, 37, 3};
        TermScan x = Scene.MOST.make();
        for (int what = 0; what <= 5; what++) {
            due.is("10: termOf(7, " + what + ")", x.termOf(7, what), last[what]);
            due.is("10: termOf(0, " + what + ")", x.termOf(0, what), first[what]);
        }
        TermScan y = Scene.MOST.make();
        y.wipe();
        due.is("10: no TEXT, FOUND", y.termOf(7, 4), 0);
        due.is("10: no TEXT, CHOSEN", y.termOf(7, 5), 0);
    }

    // ---- promise 11

    private static void letter() {
        Scene scene = Scene.NEW.then(x -> {
            Due.term(x, "w ab " + TWELVE + " xyz", 1, 0);
            Due.term(x, "solo", 1, 0);
            Due.ending(x, "abcd");
        });
        String[] words = {"w", "ab", TWELVE, "xyz"};
        TermScan x = scene.make();
        for (int k = 0; k < words.length; k++) {
            for (int i = 0; i <= 12; i++) {
                due.is("11: letter(0, " + k + ", " + i + ")", x.letter(0, k, i), i < words[k].length() ? words[k].charAt(i) : NONE);
            }
            due.is("11: it has not so many", x.letter(0, k, GREATEST), NONE);
            due.is("11: i below 0", x.letter(0, k, -1), OUTSIDE);
        }
        for (int i = 0; i <= 4; i++) {
            due.is("11: letter(0, NONE, " + i + ")", x.letter(0, NONE, i), i < 4 ? 'a' + i : NONE);
        }
        for (int i : new int[] {5, 11, 12, 13, 64, GREATEST}) {
            due.is("11: an ENDING has not so many, " + i, x.letter(0, NONE, i), NONE);
            due.is("11: a WORD has not so many, " + i, x.letter(1, 0, i), NONE);
        }
        for (int i : new int[] {LEAST, LEAST + 1, UNKNOWN, -64, -2, -1}) {
            due.refused("11: i below 0, " + i, scene, y -> y.letter(0, 0, i), OUTSIDE);
            due.refused("11: i below 0 of an ENDING, " + i, scene, y -> y.letter(0, NONE, i), OUTSIDE);
        }
        for (int k : new int[] {LEAST, UNKNOWN, -3, -2, 4, 5, GREATEST}) {
            due.refused("11: no such WORD of it, " + k, scene, y -> y.letter(0, k, 0), OUTSIDE);
        }
        for (int k = 1; k <= 4; k++) {
            due.is("11: no such WORD of one WORD, " + k, x.letter(1, k, 0), OUTSIDE);
        }
        due.is("11: no such WORD, nor so many letters", x.letter(1, 1, 99), OUTSIDE);
        for (int t : FAR) {
            due.refused("11: no TERM " + t, scene, y -> y.letter(t, 0, 0), UNKNOWN);
            due.refused("11: no ENDING " + t, scene, y -> y.letter(t, NONE, 0), UNKNOWN);
            due.is("11: UNKNOWN comes ahead of OUTSIDE", x.letter(t, 4, -1), UNKNOWN);
            due.is("11: UNKNOWN comes ahead of OUTSIDE, an ENDING", x.letter(t, NONE, -1), UNKNOWN);
        }
        due.is("11: one TERM behind the last", x.letter(2, 0, 0), UNKNOWN);
        due.is("11: one ENDING behind the last", x.letter(1, NONE, 0), UNKNOWN);
        due.is("11: k below NONE asks for a TERM", x.letter(2, -2, 0), UNKNOWN);
    }

    // ---- promises 22, 23

    private static void keep() {
        for (int i : new int[] {LEAST, UNKNOWN, -2, -1, 2, 3, 256, GREATEST}) {
            due.refused("22: no IMAGE " + i, Scene.SOME, x -> x.keep(i), UNKNOWN);
            due.refused("22: no IMAGE " + i, Scene.MOST, x -> x.keep(i), UNKNOWN);
        }
        for (int i = 0; i <= 1; i++) {
            due.is("22: no TERMS, IMAGE " + i, new TermScan().keep(i), 0);
            due.is("22: three TERMS, IMAGE " + i, Scene.SOME.make().keep(i), 3);
            due.is("22: eight TERMS, IMAGE " + i, Scene.MOST.make().keep(i), 8);
        }
        TermScan x = new TermScan();
        Due.ending(x, "s");
        due.is("22: ENDINGS are not counted", x.keep(0), 0);
        due.is("22: they are kept", x.dropEnding(0), 0);
        x.goBack(0);
        due.is("22: they are kept", x.told(1), 1);
        due.is("22: keeping one keeps no other", x.goBack(1), NOT);
    }

    private static void goBack() {
        for (int i : new int[] {LEAST, UNKNOWN, -2, -1, 2, 3, 256, GREATEST}) {
            due.refused("23: no IMAGE " + i, Scene.NEW, x -> x.goBack(i), UNKNOWN);
            due.refused("23: no IMAGE " + i, Scene.SOME, x -> x.goBack(i), UNKNOWN);
            due.refused("23: no IMAGE " + i, Scene.MOST, x -> x.goBack(i), UNKNOWN);
        }
        due.refused("23: IMAGE 0 was not kept", Scene.NEW, x -> x.goBack(0), NOT);
        due.refused("23: IMAGE 1 was not kept", Scene.NEW, x -> x.goBack(1), NOT);
        due.refused("23: IMAGE 1 was not kept, IMAGE 0 was", Scene.SOME, x -> x.goBack(1), NOT);
        TermScan x = new TermScan();
        x.keep(1);
        due.is("23: IMAGE 0 was not kept, IMAGE 1 was", x.goBack(0), NOT);
        due.is("23: no TERMS were kept", x.goBack(1), 0);
    }

    private static void imagesAtTheirMost() {
        due.alike("23: all goes, and comes again", Scene.MOST.then(x -> {
            x.keep(0);
            for (int t = 0; t < 8; t++) {
                x.allow(t);
            }
            for (int t = 0; t < 8; t++) {
                x.dropTerm(0);
            }
            for (int e = 0; e < 5; e++) {
                x.dropEnding(0);
            }
            x.told(11);
            x.goBack(0);
        }), Scene.MOST.then(x -> x.keep(0)));
        due.alike("23: none were kept, so all go", Scene.NEW.then(x -> {
            x.keep(1);
            Due.term(x, "a", 1, 0);
            Due.ending(x, "s");
            Due.read(x, "a as ");
            x.told(11);
            x.goBack(1);
        }), Scene.NEW.then(x -> {
            x.keep(1);
            Due.read(x, "a as ");
        }));
        due.alike("23: those that came in their place go", eightTerms().then(x -> {
            x.keep(0);
            for (int t = 0; t < 8; t++) {
                x.dropTerm(0);
            }
            for (int t = 0; t < 8; t++) {
                Due.term(x, (char) ('p' + t) + " y".repeat(3 - t % 4), 9, 1 - t % 2);
            }
            x.forbid(0, 1);
            x.told(11);
            x.goBack(0);
        }), eightTerms().then(x -> x.keep(0)));
        due.alike("23: going back twice is going back", Scene.SOME.then(x -> {
            x.goBack(0);
            x.change(0, 0, 9);
            x.dropTerm(1);
            x.goBack(0);
        }), Scene.SOME.then(x -> x.goBack(0)));
        TermScan x = Scene.MOST.make();
        due.is("23: IMAGE 1 has none FORBIDDEN", x.goBack(1), 8);
        due.is("23: a SET of none", x.told(12), 0);
        due.is("23: IMAGE 0 has", x.goBack(0), 8);
        due.is("23: a SET", x.told(12), 1 + 4 + 16);
        due.is("23: as it was kept, BENT of 5", x.termOf(5, 2), 0);
    }

    // ---- while the text stands

    /** What the TEXT was looked at with is forgotten: it is as if it had been read behind the change. */
    private static void changesBehindTheText() {
        isAsIfReadBehind("3: a TERM comes", x -> Due.term(x, "as b", 9, 1));
        isAsIfReadBehind("4: an ENDING comes", x -> Due.ending(x, "es"));
        isAsIfReadBehind("5: the first TERM goes", x -> x.dropTerm(0));
        isAsIfReadBehind("5: the last TERM goes", x -> x.dropTerm(2));
        isAsIfReadBehind("6: the first ENDING goes", x -> x.dropEnding(0));
        isAsIfReadBehind("6: the last ENDING goes", x -> x.dropEnding(1));
        isAsIfReadBehind("7: a TERM is FORBIDDEN", x -> x.forbid(2, 1));
        isAsIfReadBehind("7: in favour of another", x -> x.forbid(0, 2));
        isAsIfReadBehind("8: a TERM is ALLOWED", x -> x.allow(0));
        isAsIfReadBehind("9: another WEIGHT", x -> x.change(2, 0, 9));
        isAsIfReadBehind("9: BENT", x -> x.change(2, 1, 1));
        isAsIfReadBehind("9: not BENT", x -> x.change(0, 1, 0));
        isAsIfReadBehind("23: back to an IMAGE", x -> x.goBack(0));
    }

    private static void isAsIfReadBehind(String what, Consumer<TermScan> change) {
        Scene terms = Scene.NEW.then(x -> {
            Due.ending(x, "s");
            Due.term(x, "a", 2, 1);
            x.keep(0);
            Due.ending(x, "bs");
            Due.term(x, "b c d e", 3, 0);
            Due.term(x, "c", 1, 0);
            x.forbid(0, 1);
        });
        Consumer<TermScan> text = x -> Due.read(x, "as bs c. aes b c d e. abs cs c as be b. a");
        Scene ahead = terms.then(change).then(text);
        due.alike(what, terms.then(text).then(change), ahead);
        due.alike(what + ", when it was looked at", terms.then(text).then(x -> x.told(11)).then(change), ahead);
        shows(what, terms.then(text), ahead);
    }

    /** The change has to show, or the test would ask nothing. */
    private static void shows(String what, Scene without, Scene with) {
        due.isTrue(what + ": it shows", !without.state().equals(with.state()));
    }
}
