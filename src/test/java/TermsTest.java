/** Promises 1 to 11 and 22, 23: terms, endings, images. */
public final class TermsTest {
    private static final int NONE = TermScan.NONE, UNKNOWN = TermScan.UNKNOWN, OUTSIDE = TermScan.OUTSIDE,
            NOT = TermScan.NOT, FULL = TermScan.FULL;
    private static final int[] STRANGE = {Integer.MIN_VALUE, UNKNOWN, -2, -1, 60, 1000, Integer.MAX_VALUE};

    private static final Due due = new Due();

    public static void main(String[] args) {
        constants();
        newObject();
        spell();
        spellFull();
        term();
        termRefusals();
        termFull();
        termOfFourTwelves();
        ending();
        endingFull();
        dropTerm();
        dropEnding();
        forbid();
        allow();
        change();
        termOf();
        letter();
        images();
        due.finish("TermsTest");
    }

    private static void constants() {
        due.is("NONE", NONE, -1);
        due.is("UNKNOWN", UNKNOWN, -1000000001);
        due.is("OUTSIDE", OUTSIDE, -1000000002);
        due.is("NOT", NOT, -1000000003);
        due.is("FULL", FULL, -1000000004);
    }

    private static void newObject() {
        TermScan x = new TermScan();
        for (int what = 0; what <= 12; what++) {
            due.is("1: new, told(" + what + ")", x.told(what), 0);
        }
        due.is("1: new, termOf(0, 0)", x.termOf(0, 0), UNKNOWN);
        due.is("1: new, letter(0, -1, 0)", x.letter(0, -1, 0), UNKNOWN);
        due.is("1: new, word(0, 0)", x.word(0, 0), UNKNOWN);
        due.is("1: new, sign(0)", x.sign(0), NONE);
        due.is("1: new, found(0, 0)", x.found(0, 0), NONE);
        due.is("1: new, chosen(0, 0)", x.chosen(0, 0), NONE);
        due.is("1: new, goBack(0)", x.goBack(0), NOT);
        TermScan y = new TermScan();
        Due.term(y, "a", 1, 0);
        Due.read(y, "a ");
        due.is("1: objects are apart, told(0)", x.told(0), 0);
        due.is("1: objects are apart, told(3)", x.told(3), 0);
    }

    private static void spell() {
        TermScan x = new TermScan();
        due.is("2: spell(a)", x.spell(97), 1);
        due.is("2: spell(z)", x.spell(122), 2);
        due.is("2: spell(blank)", x.spell(32), 3);
        int[] others = {96, 123, 31, 33, 46, 65, 90, 0, -1, 97 + 256, Integer.MIN_VALUE, Integer.MAX_VALUE};
        for (int sign : others) {
            due.is("2: spell(" + sign + ")", x.spell(sign), OUTSIDE);
        }
        due.is("2: refused signs change nothing", x.told(2), 3);
    }

    private static void spellFull() {
        TermScan x = new TermScan();
        for (int i = 1; i <= 50; i++) {
            due.is("2: spell, sign " + i, x.spell(i % 2 == 0 ? 32 : 97), i);
        }
        due.is("2: spell(a) on a full slip", x.spell(97), FULL);
        due.is("2: spell(blank) on a full slip", x.spell(32), FULL);
        due.is("2: OUTSIDE comes ahead of FULL", x.spell(46), OUTSIDE);
        due.is("2: a full slip has", x.told(2), 50);
    }

    private static void term() {
        TermScan x = new TermScan();
        Due.spell(x, "  red   car ");
        due.is("3: term", x.term(9, 1), 0);
        due.is("3: the slip is empty then", x.told(2), 0);
        due.is("3: WORDS", x.termOf(0, 0), 2);
        due.is("3: it is ALLOWED", x.termOf(0, 3), NONE);
        due.is("3: the same WORDS otherwise spelled", Due.term(x, "red car", 1, 0), NOT);
        due.is("3: other WORDS", Due.term(x, "redcar", 1, 0), 1);
        due.is("3: the WORDS turned round", Due.term(x, "car red", 1, 0), 2);
        due.is("3: the beginning of another", Due.term(x, "red", 1, 0), 3);
        due.is("3: more than another", Due.term(x, "red car red", 1, 0), 4);
        due.is("3: four WORDS", Due.term(x, "a b c d", 1, 0), 5);
        due.is("3: told(0)", x.told(0), 6);
    }

    private static void termRefusals() {
        TermScan x = new TermScan();
        due.is("3: no WORD", x.term(1, 0), NOT);
        Due.spell(x, "ab");
        for (int v : new int[] {0, 10, -1, Integer.MIN_VALUE, Integer.MAX_VALUE}) {
            due.is("3: term(" + v + ", 0)", x.term(v, 0), OUTSIDE);
        }
        for (int v : new int[] {2, -1, Integer.MIN_VALUE, Integer.MAX_VALUE}) {
            due.is("3: term(1, " + v + ")", x.term(1, v), OUTSIDE);
        }
        due.is("3: with OUTSIDE the slip stays", x.told(2), 2);
        due.is("3: and can become a TERM", x.term(1, 0), 0);
        due.is("3: OUTSIDE comes ahead of NOT", x.term(0, 0), OUTSIDE);
        due.is("3: blanks alone", Due.term(x, "   ", 1, 0), NOT);
        due.is("3: the slip is empty then, too", x.told(2), 0);
        due.is("3: five WORDS", Due.term(x, "a b c d e", 1, 0), NOT);
        due.is("3: the slip is empty then, too", x.told(2), 0);
        due.is("3: thirteen letters", Due.term(x, "abcdefghijklm", 1, 0), NOT);
        due.is("3: thirteen letters behind a WORD", Due.term(x, "a abcdefghijklm b", 1, 0), NOT);
        due.is("3: 25 WORDS", Due.term(x, "a b a b a b a b a b a b a b a b a b a b a b a b a ", 1, 0), NOT);
        due.is("3: there is such a TERM", Due.term(x, "ab", 5, 1), NOT);
        due.is("3: the slip is empty then, too", x.told(2), 0);
        due.is("3: what is refused changes nothing", x.told(0), 1);
        due.is("3: twelve letters", Due.term(x, "abcdefghijkl", 1, 0), 1);
    }

    private static void termFull() {
        TermScan x = new TermScan();
        for (int t = 0; t < 8; t++) {
            due.is("3: term " + t, Due.term(x, "a" + (char) (97 + t), 1, 0), t);
        }
        due.is("3: a ninth", Due.term(x, "new", 1, 0), FULL);
        due.is("3: with FULL the slip is empty then, too", x.told(2), 0);
        due.is("3: NOT comes ahead of FULL (twice)", Due.term(x, "ah", 1, 0), NOT);
        due.is("3: NOT comes ahead of FULL (no WORD)", x.term(1, 0), NOT);
        Due.spell(x, "new");
        due.is("3: OUTSIDE comes ahead of FULL", x.term(1, 2), OUTSIDE);
        due.is("3: OUTSIDE leaves the slip", x.told(2), 3);
        due.is("3: told(0)", x.told(0), 8);
        due.is("3: room again", x.dropTerm(0), 7);
        due.is("3: term with room again", x.term(1, 0), 7);
    }

    private static void termOfFourTwelves() {
        TermScan x = new TermScan();
        due.is("3: as much as the slip holds", Due.term(x, "zzzzzzzzzzzz yyyyyyyyyyyy xxxxxxxxxxxx abcdefghijk", 9, 1), 0);
        due.is("3: its last letter", x.letter(0, 3, 10), 'k');
        due.is("3: the twelfth letter", x.letter(0, 0, 11), 'z');
        due.is("3: a thirteenth", x.letter(0, 0, 12), NONE);
    }

    private static void ending() {
        TermScan x = new TermScan();
        due.is("4: nothing on the slip", x.ending(), NOT);
        due.is("4: ending", Due.ending(x, "s"), 0);
        due.is("4: the slip is empty then", x.told(2), 0);
        due.is("4: four letters with blanks about them", Due.ending(x, " ings "), 1);
        due.is("4: five letters", Due.ending(x, "abcde"), NOT);
        due.is("4: the slip is empty then, too", x.told(2), 0);
        due.is("4: thirteen letters", Due.ending(x, "abcdefghijklm"), NOT);
        due.is("4: two WORDS", Due.ending(x, "a b"), NOT);
        due.is("4: five WORDS", Due.ending(x, "a b c d e"), NOT);
        due.is("4: blanks", Due.ending(x, "  "), NOT);
        due.is("4: the slip is empty then, too", x.told(2), 0);
        due.is("4: there is such an ENDING", Due.ending(x, "ings"), NOT);
        due.is("4: its beginning is another", Due.ending(x, "ing"), 2);
        due.is("4: told(1)", x.told(1), 3);
        due.is("4: TERMS are apart", Due.term(x, "s", 1, 0), 0);
    }

    private static void endingFull() {
        TermScan x = new TermScan();
        for (int e = 0; e < 5; e++) {
            due.is("4: ending " + e, Due.ending(x, "e" + (char) (97 + e)), e);
        }
        due.is("4: a sixth", Due.ending(x, "x"), FULL);
        due.is("4: with FULL the slip is empty then, too", x.told(2), 0);
        due.is("4: NOT comes ahead of FULL", Due.ending(x, "ea"), NOT);
        due.is("4: NOT comes ahead of FULL (no WORD)", x.ending(), NOT);
        due.is("4: told(1)", x.told(1), 5);
    }

    private static void dropTerm() {
        TermScan x = new TermScan();
        due.is("5: none there", x.dropTerm(0), UNKNOWN);
        String[] words = {"a", "b c", "d", "e", "f"};
        for (int t = 0; t < words.length; t++) {
            Due.term(x, words[t], t + 1, t % 2);
        }
        x.forbid(0, 3);
        x.forbid(4, 3);
        x.forbid(1, 2);
        for (int t : STRANGE) {
            due.is("5: dropTerm(" + t + ")", x.dropTerm(t), UNKNOWN);
        }
        due.is("5: dropTerm(5)", x.dropTerm(5), UNKNOWN);
        due.is("5: PREFERRED", x.dropTerm(3), NOT);
        due.is("5: a FORBIDDEN one goes", x.dropTerm(1), 4);
        due.is("5: what PREFERS those behind it (0)", x.termOf(0, 3), 2);
        due.is("5: what PREFERS those behind it (3)", x.termOf(3, 3), 2);
        due.is("5: those behind it have a number less", x.letter(1, 0, 0), 'd');
        due.is("5: with their WEIGHT", x.termOf(1, 1), 3);
        due.is("5: with their BENT", x.termOf(2, 2), 1);
        due.is("5: with their WORDS", x.termOf(1, 0), 1);
        due.is("5: no more PREFERRED, it goes", x.dropTerm(1), 3);
        due.is("5: still PREFERRED", x.dropTerm(1), NOT);
        due.is("5: the last goes", x.dropTerm(2), 2);
        due.is("5: the first goes", x.dropTerm(0), 1);
        due.is("5: the one that was PREFERRED goes", x.dropTerm(0), 0);
        due.is("5: told(12)", x.told(12), 0);
    }

    private static void dropEnding() {
        TermScan x = new TermScan();
        due.is("6: none there", x.dropEnding(0), UNKNOWN);
        Due.ending(x, "s");
        Due.ending(x, "ed");
        Due.ending(x, "ing");
        Due.term(x, "go", 1, 1);
        Due.read(x, "goes gos goed going ");
        due.is("6: FOUND", x.told(6), 3);
        for (int e : STRANGE) {
            due.is("6: dropEnding(" + e + ")", x.dropEnding(e), UNKNOWN);
        }
        due.is("6: dropEnding(3)", x.dropEnding(3), UNKNOWN);
        due.is("6: dropEnding(0)", x.dropEnding(0), 2);
        due.is("6: those behind it have a number less", x.letter(1, -1, 0), 'i');
        due.is("6: less is FOUND", x.told(6), 2);
        due.is("6: dropEnding(1)", x.dropEnding(1), 1);
        due.is("6: less is FOUND", x.told(6), 1);
        due.is("6: dropEnding(0), the last", x.dropEnding(0), 0);
        due.is("6: nothing is FOUND", x.told(6), 0);
    }

    private static void forbid() {
        TermScan x = new TermScan();
        for (String words : new String[] {"a", "b", "c", "d"}) {
            Due.term(x, words, 1, 0);
        }
        for (int t : STRANGE) {
            due.is("7: forbid(" + t + ", 0)", x.forbid(t, 0), UNKNOWN);
            due.is("7: forbid(0, " + t + ")", x.forbid(0, t), UNKNOWN);
        }
        due.is("7: forbid(4, 0)", x.forbid(4, 0), UNKNOWN);
        due.is("7: forbid(0, 4)", x.forbid(0, 4), UNKNOWN);
        due.is("7: one twice", x.forbid(1, 1), UNKNOWN);
        due.is("7: forbid(0, 1)", x.forbid(0, 1), 1);
        due.is("7: forbid(2, 1)", x.forbid(2, 1), 2);
        due.is("7: it is PREFERRED itself", x.forbid(1, 3), NOT);
        due.is("7: u is FORBIDDEN", x.forbid(3, 0), NOT);
        due.is("7: one twice, PREFERRED", x.forbid(1, 1), UNKNOWN);
        due.is("7: one twice, FORBIDDEN", x.forbid(0, 0), UNKNOWN);
        due.is("7: told(12)", x.told(12), 5);
        due.is("7: in favour of another", x.forbid(0, 3), 2);
        due.is("7: it is that", x.termOf(0, 3), 3);
        due.is("7: likewise the other", x.forbid(2, 3), 2);
        due.is("7: then the first PREFERRED is free", x.forbid(1, 3), 3);
        due.is("7: told(12)", x.told(12), 7);
    }

    private static void allow() {
        TermScan x = new TermScan();
        due.is("8: none there", x.allow(0), UNKNOWN);
        for (String words : new String[] {"a", "b", "c"}) {
            Due.term(x, words, 1, 0);
        }
        for (int t : STRANGE) {
            due.is("8: allow(" + t + ")", x.allow(t), UNKNOWN);
        }
        due.is("8: allow(3)", x.allow(3), UNKNOWN);
        due.is("8: it is ALLOWED", x.allow(0), NOT);
        x.forbid(0, 2);
        x.forbid(1, 2);
        due.is("8: PREFERRED is ALLOWED", x.allow(2), NOT);
        due.is("8: allow(0)", x.allow(0), 1);
        due.is("8: termOf(0, 3)", x.termOf(0, 3), NONE);
        due.is("8: again", x.allow(0), NOT);
        due.is("8: allow(1)", x.allow(1), 0);
        due.is("8: no more PREFERRED", x.dropTerm(2), 2);
    }

    private static void change() {
        TermScan x = new TermScan();
        due.is("9: none there", x.change(0, 0, 1), UNKNOWN);
        Due.term(x, "a", 4, 0);
        Due.ending(x, "s");
        Due.read(x, "a as ");
        for (int v : STRANGE) {
            due.is("9: change(" + v + ", 0, 1)", x.change(v, 0, 1), UNKNOWN);
            due.is("9: change(0, 0, " + v + ")", x.change(0, 0, v), OUTSIDE);
            due.is("9: change(0, 1, " + v + ")", x.change(0, 1, v), OUTSIDE);
            due.is("9: change(0, " + v + ", 1)", x.change(0, v, 1), OUTSIDE);
        }
        due.is("9: UNKNOWN comes ahead of OUTSIDE", x.change(1, 2, 99), UNKNOWN);
        due.is("9: WEIGHT 0", x.change(0, 0, 0), OUTSIDE);
        due.is("9: WEIGHT 10", x.change(0, 0, 10), OUTSIDE);
        due.is("9: BENT 2", x.change(0, 1, 2), OUTSIDE);
        due.is("9: no such what", x.change(0, 2, 1), OUTSIDE);
        due.is("9: WEIGHT 9", x.change(0, 0, 9), 4);
        due.is("9: WORTH then", x.told(8), 9);
        due.is("9: WEIGHT 1", x.change(0, 0, 1), 9);
        due.is("9: BENT", x.change(0, 1, 1), 0);
        due.is("9: FOUND then", x.told(6), 2);
        due.is("9: WORTH then", x.told(8), 2);
        due.is("9: BENT again", x.change(0, 1, 1), 1);
        due.is("9: not BENT", x.change(0, 1, 0), 1);
        due.is("9: FOUND then", x.told(6), 1);
    }

    private static void termOf() {
        TermScan x = new TermScan();
        Due.term(x, "a b c", 7, 1);
        Due.term(x, "b", 9, 0);
        Due.term(x, "a", 2, 0);
        x.forbid(0, 2);
        Due.read(x, "a b c. a b. b a b c ");
        int[] first = {3, 7, 1, 2, 2, 2};
        int[] second = {1, 9, 0, NONE, 4, 2};
        for (int what = 0; what < 6; what++) {
            due.is("10: termOf(0, " + what + ")", x.termOf(0, what), first[what]);
            due.is("10: termOf(1, " + what + ")", x.termOf(1, what), second[what]);
            due.is("10: termOf(3, " + what + ")", x.termOf(3, what), UNKNOWN);
        }
        for (int v : STRANGE) {
            due.is("10: termOf(" + v + ", 0)", x.termOf(v, 0), UNKNOWN);
            due.is("10: termOf(0, " + v + ")", x.termOf(0, v), OUTSIDE);
            due.is("10: termOf(" + v + ", " + v + ")", x.termOf(v, v), UNKNOWN);
        }
        due.is("10: termOf(0, 6)", x.termOf(0, 6), OUTSIDE);
    }

    private static void letter() {
        TermScan x = new TermScan();
        Due.term(x, "ab cde", 1, 0);
        Due.ending(x, "ing");
        due.is("11: letter(0, 0, 0)", x.letter(0, 0, 0), 'a');
        due.is("11: letter(0, 0, 1)", x.letter(0, 0, 1), 'b');
        due.is("11: letter(0, 0, 2)", x.letter(0, 0, 2), NONE);
        due.is("11: letter(0, 1, 2)", x.letter(0, 1, 2), 'e');
        due.is("11: letter(0, 1, 3)", x.letter(0, 1, 3), NONE);
        due.is("11: letter(0, -1, 0)", x.letter(0, NONE, 0), 'i');
        due.is("11: letter(0, -1, 2)", x.letter(0, NONE, 2), 'g');
        due.is("11: letter(0, -1, 3)", x.letter(0, NONE, 3), NONE);
        due.is("11: letter(0, 0, most)", x.letter(0, 0, Integer.MAX_VALUE), NONE);
        due.is("11: letter(0, -1, most)", x.letter(0, NONE, Integer.MAX_VALUE), NONE);
        due.is("11: no such WORD of it", x.letter(0, 2, 0), OUTSIDE);
        due.is("11: no such WORD of it", x.letter(0, 4, 0), OUTSIDE);
        due.is("11: no such WORD of it", x.letter(0, -2, 0), OUTSIDE);
        due.is("11: no such WORD of it", x.letter(0, Integer.MIN_VALUE, 0), OUTSIDE);
        due.is("11: no such WORD of it", x.letter(0, Integer.MAX_VALUE, 0), OUTSIDE);
        due.is("11: i below 0", x.letter(0, 0, -1), OUTSIDE);
        due.is("11: i below 0, an ENDING", x.letter(0, NONE, -1), OUTSIDE);
        due.is("11: i below 0", x.letter(0, 0, Integer.MIN_VALUE), OUTSIDE);
        for (int v : STRANGE) {
            due.is("11: letter(" + v + ", 0, 0)", x.letter(v, 0, 0), UNKNOWN);
            due.is("11: letter(" + v + ", -1, 0)", x.letter(v, NONE, 0), UNKNOWN);
        }
        due.is("11: UNKNOWN comes ahead of OUTSIDE", x.letter(1, 9, -1), UNKNOWN);
        due.is("11: UNKNOWN comes ahead of OUTSIDE, an ENDING", x.letter(1, NONE, -1), UNKNOWN);
        Due.term(x, "z", 1, 0);
        due.is("11: a TERM's number is no ENDING's", x.letter(1, NONE, 0), UNKNOWN);
    }

    private static void images() {
        TermScan x = new TermScan();
        for (int i : new int[] {2, -1, Integer.MIN_VALUE, Integer.MAX_VALUE}) {
            due.is("22: keep(" + i + ")", x.keep(i), UNKNOWN);
            due.is("23: goBack(" + i + ")", x.goBack(i), UNKNOWN);
        }
        due.is("23: it was not kept", x.goBack(0), NOT);
        due.is("23: it was not kept", x.goBack(1), NOT);
        due.is("22: keep(1), no TERMS", x.keep(1), 0);
        due.is("23: the other was not kept", x.goBack(0), NOT);
        Due.term(x, "a", 3, 1);
        Due.term(x, "b c", 4, 0);
        Due.ending(x, "s");
        Due.ending(x, "en");
        x.forbid(0, 1);
        due.is("22: keep(0)", x.keep(0), 2);
        Due.spell(x, "slip");
        Due.read(x, "as b c as.");
        x.allow(0);
        x.change(0, 0, 9);
        x.change(0, 1, 0);
        x.change(1, 1, 1);
        x.dropEnding(0);
        x.dropTerm(1);
        x.term(1, 1);
        Due.spell(x, "left");
        due.is("23: goBack(0)", x.goBack(0), 2);
        due.is("23: WEIGHT", x.termOf(0, 1), 3);
        due.is("23: BENT", x.termOf(0, 2), 1);
        due.is("23: BENT", x.termOf(1, 2), 0);
        due.is("23: PREFERRED", x.termOf(0, 3), 1);
        due.is("23: WORDS", x.termOf(1, 0), 2);
        due.is("23: a letter", x.letter(1, 1, 0), 'c');
        due.is("23: ENDINGS", x.told(1), 2);
        due.is("23: an ENDING", x.letter(0, NONE, 0), 's');
        due.is("23: THE SLIP stays", x.told(2), 4);
        due.is("23: THE TEXT stays", x.told(3), 4);
        due.is("23: FOUND", x.told(6), 3);
        due.isTrue("23: the MENDED TEXT: " + Due.mended(x), Due.mended(x).equals("b c b c b c."));
        x.change(0, 0, 8);
        due.is("23: the image is no part of what is changed", x.goBack(0), 2);
        due.is("23: WEIGHT", x.termOf(0, 1), 3);
        x.change(0, 0, 6);
        due.is("22: keep(0) anew", x.keep(0), 2);
        x.change(0, 0, 7);
        x.goBack(0);
        due.is("22: it keeps what was last", x.termOf(0, 1), 6);
        due.is("23: goBack(1), no TERMS", x.goBack(1), 0);
        due.is("23: no ENDINGS", x.told(1), 0);
        due.is("23: nothing is FOUND", x.told(6), 0);
        due.is("23: goBack(0) again", x.goBack(0), 2);
    }
}
