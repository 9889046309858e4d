import java.util.Random;

/** Runs of calls by lots, each answered by TermScan and by Model. */
public final class ModelTest {
    private static final int RUNS = 3000;
    private static final int CALLS = 512;
    private static final int MOST_OF_A_RUN_TOLD = 3;
    private static final int[] STRANGE = {Integer.MIN_VALUE, Integer.MIN_VALUE + 1, -1000000001, -256, -2, -1,
        5, 8, 9, 10, 12, 13, 31, 59, 60, 61, 255, 256, 999999, 1000000, Integer.MAX_VALUE - 1, Integer.MAX_VALUE};

    private static final Due due = new Due();

    private final int run;
    private final Random random;
    private final TermScan x = new TermScan();
    private final Model model = new Model();
    /** Few letters, so that WORDS are often the same; some runs have WORDS that are long. */
    private final int alphabet;
    private final int wordSize;
    private final boolean wild;
    private int made = 0;
    private int wrong = 0;

    private ModelTest(int run) {
        this.run = run;
        random = new Random(run);
        alphabet = 1 + random.nextInt(3);
        wordSize = random.nextInt(4) == 0 ? 14 : 1 + random.nextInt(3);
        wild = random.nextInt(3) == 0;
    }

    public static void main(String[] args) {
        for (int run = 0; run < RUNS; run++) {
            new ModelTest(run).go();
        }
        due.finish("ModelTest");
    }

    private void go() {
        while (made < CALLS && wrong < MOST_OF_A_RUN_TOLD) {
            int kind = random.nextInt(100);
            if (kind < 12) {
                spellTerm();
            } else if (kind < 16) {
                spellEnding();
            } else if (kind < 50) {
                readSome();
            } else if (kind < 65) {
                changeTerms();
            } else {
                ask();
            }
        }
    }

    private int any(int bound) {
        return wild && random.nextInt(12) == 0 ? STRANGE[random.nextInt(STRANGE.length)] : random.nextInt(bound);
    }

    private String letters(int most) {
        StringBuilder all = new StringBuilder();
        int size = 1 + random.nextInt(most);
        for (int i = 0; i < size; i++) {
            all.append((char) ('a' + random.nextInt(alphabet)));
        }
        return all.toString();
    }

    private void spellAll(String signs) {
        for (char c : signs.toCharArray()) {
            call(0, c, 0, 0);
        }
    }

    private void spellTerm() {
        int words = 1 + random.nextInt(random.nextInt(8) == 0 ? 5 : 4);
        for (int k = 0; k < words; k++) {
            spellAll(letters(wordSize) + (k + 1 < words || random.nextInt(5) == 0 ? " " : ""));
        }
        if (wild && random.nextInt(4) == 0) {
            call(0, any(256), 0, 0);
        }
        call(1, 1 + any(9), any(2), 0);
    }

    private void spellEnding() {
        spellAll(letters(random.nextInt(6) == 0 ? 5 : 2));
        call(2, 0, 0, 0);
    }

    private void readSome() {
        int kind = random.nextInt(20);
        if (kind == 0) {
            call(11, 0, 0, 0);
        } else if (kind < 4) {
            call(12, 1 + any(30), 1 + any(999999), 0);
        } else if (kind < 6) {
            call(10, any(256), 0, 0);
        } else {
            for (char c : letters(wordSize + 1).toCharArray()) {
                call(10, c, 0, 0);
            }
            call(10, random.nextInt(5) == 0 ? '.' : ' ', 0, 0);
        }
    }

    private void changeTerms() {
        int[] kinds = {3, 4, 5, 5, 5, 6, 7, 7, 7, 20, 21};
        int kind = kinds[random.nextInt(kinds.length)];
        int first = kind >= 20 ? any(2) : kind == 4 ? any(6) : any(9);
        int second = kind == 7 ? any(2) : any(9);
        call(kind, first, second, any(10));
    }

    private void ask() {
        int kind = new int[] {8, 9, 13, 13, 13, 14, 14, 14, 15, 16, 16, 17, 18, 19}[random.nextInt(14)];
        int words = Math.max(1, model.told(3));
        int first = kind == 8 || kind == 9 ? any(9) : kind == 14 ? any(13) : kind == 18 ? any(80) : any(words + 1);
        int second = kind == 9 ? any(5) - 1 : kind == 19 ? any(words + 1) : any(6);
        call(kind, first, second, any(13));
    }

    private void call(int kind, int a, int b, int c) {
        if (made >= CALLS) {
            return;
        }
        made++;
        String name = NAMES[kind] + "(" + a + ", " + b + ", " + c + ")";
        int want = ofModel(kind, a, b, c);
        int got;
        try {
            got = ofClass(kind, a, b, c);
        } catch (RuntimeException thrown) {
            wrong = CALLS;
            due.isTrue("run " + run + ", call " + made + ": " + name + " threw " + thrown, false);
            return;
        }
        if (got != want) {
            wrong++;
        }
        due.is("run " + run + ", call " + made + ": " + name, got, want);
    }

    private static final String[] NAMES = {"spell", "term", "ending", "dropTerm", "dropEnding", "forbid", "allow",
        "change", "termOf", "letter", "read", "wipe", "drift", "word", "told", "found", "chosen", "longest", "sign",
        "same", "keep", "goBack"};

    private int ofClass(int kind, int a, int b, int c) {
        switch (kind) {
            case 0: return x.spell(a);
            case 1: return x.term(a, b);
            case 2: return x.ending();
            case 3: return x.dropTerm(a);
            case 4: return x.dropEnding(a);
            case 5: return x.forbid(a, b);
            case 6: return x.allow(a);
            case 7: return x.change(a, b, c);
            case 8: return x.termOf(a, b);
            case 9: return x.letter(a, b, c);
            case 10: return x.read(a);
            case 11: return x.wipe();
            case 12: return x.drift(a, b);
            case 13: return x.word(a, b);
            case 14: return x.told(a);
            case 15: return x.found(a, b);
            case 16: return x.chosen(a, b);
            case 17: return x.longest(a);
            case 18: return x.sign(a);
            case 19: return x.same(a, b);
            case 20: return x.keep(a);
            default: return x.goBack(a);
        }
    }

    private int ofModel(int kind, int a, int b, int c) {
        switch (kind) {
            case 0: return model.spell(a);
            case 1: return model.term(a, b);
            case 2: return model.ending();
            case 3: return model.dropTerm(a);
            case 4: return model.dropEnding(a);
            case 5: return model.forbid(a, b);
            case 6: return model.allow(a);
            case 7: return model.change(a, b, c);
            case 8: return model.termOf(a, b);
            case 9: return model.letter(a, b, c);
            case 10: return model.read(a);
            case 11: return model.wipe();
            case 12: return model.drift(a, b);
            case 13: return model.word(a, b);
            case 14: return model.told(a);
            case 15: return model.found(a, b);
            case 16: return model.chosen(a, b);
            case 17: return model.longest(a);
            case 18: return model.sign(a);
            case 19: return model.same(a, b);
            case 20: return model.keep(a);
            default: return model.goBack(a);
        }
    }
}
