import java.util.ArrayList;
import java.util.List;
import java.util.function.Consumer;
import java.util.function.ToIntFunction;

/**
 * A run of calls that can be made again on a new object, and all that the object can be asked then.
 * An object is used for 512 calls at most, so each hundred questions go to a new one.
 */
final class Scene {
    private static final int QUESTIONS_OF_ONE = 100;
    private static final int MOST_TERMS = 8, MOST_WORDS = 4, MOST_LETTERS = 12, MOST_ENDINGS = 5, MOST_ENDING_LETTERS = 4;

    static final Scene NEW = new Scene(x -> { });
    /** Something of each kind, nothing full: a WORD that comes, signs on THE SLIP, IMAGE 0 kept, a TERM FORBIDDEN. */
    static final Scene SOME = new Scene(Scene::some);
    /** As many as can be of each kind. */
    static final Scene MOST = new Scene(Scene::most);

    private final Consumer<TermScan> calls;
    private String known = null;

    Scene(Consumer<TermScan> calls) {
        this.calls = calls;
    }

    Scene then(Consumer<TermScan> more) {
        return new Scene(calls.andThen(more));
    }

    TermScan make() {
        TermScan x = new TermScan();
        calls.accept(x);
        return x;
    }

    private static void some(TermScan x) {
        Due.term(x, "red car", 2, 1);
        Due.term(x, "car", 3, 1);
        Due.term(x, "motor car", 1, 0);
        Due.ending(x, "s");
        x.keep(0);
        Due.ending(x, "ing");
        x.forbid(1, 2);
        Due.read(x, "a red cars. caring is car abcdefghijklmn so.motor red carin");
        Due.spell(x, "ab c");
    }

    private static void most(TermScan x) {
        for (String letters : new String[] {"s", "e", "es", "ab", "abcd"}) {
            Due.ending(x, letters);
        }
        int weight = 1;
        for (String words : new String[] {"a", "b", "a b", "b a c", "c", "as", "d", "a a a a"}) {
            Due.term(x, words, weight, weight % 2);
            weight++;
        }
        x.keep(1);
        x.forbid(0, 6);
        x.forbid(2, 6);
        x.forbid(4, 3);
        x.keep(0);
        x.change(5, 1, 1);
        for (int i = 0; i < 10; i++) {
            Due.read(x, i % 3 == 1 ? "a b a c as d." : "a a a a bs x ");
        }
        for (int i = 0; i < 50; i++) {
            x.spell(i % 13 == 12 ? ' ' : 'z');
        }
    }

    /** A text in which all stands that can be asked; two scenes are alike if their texts are. */
    String state() {
        if (known == null) {
            StringBuilder all = new StringBuilder();
            tell(all, "now", x -> { });
            tell(all, "the slip as a term", Scene::slipAsTerm);
            tell(all, "the slip, a letter more, as a term", x -> {
                dropAll(x);
                x.spell('q');
                x.term(1, 0);
            });
            tell(all, "a blank more", x -> x.read(' '));
            tell(all, "a point more", x -> x.read('.'));
            tell(all, "back to image 0", x -> x.goBack(0));
            tell(all, "back to image 1", x -> x.goBack(1));
            known = all.toString();
        }
        return known;
    }

    private static void slipAsTerm(TermScan x) {
        dropAll(x);
        x.term(1, 0);
    }

    private static void dropAll(TermScan x) {
        for (int t = 0; t < MOST_TERMS; t++) {
            x.allow(t);
        }
        for (int t = 0; t < MOST_TERMS; t++) {
            x.dropTerm(0);
        }
    }

    private void tell(StringBuilder all, String when, Consumer<TermScan> more) {
        Scene later = then(more);
        TermScan first = later.make();
        int found = first.told(6);
        int chosen = first.told(7);
        int signs = first.told(11);
        Questions asked = new Questions(later, when, all);
        for (int what = 0; what <= 12; what++) {
            int w = what;
            asked.add("told(" + w + ")", x -> x.told(w));
        }
        askTerms(asked);
        askText(asked, first.told(3));
        for (int what = 0; what <= 3; what++) {
            int w = what;
            for (int k = 0; k <= found; k++) {
                int n = k;
                asked.add("found(" + n + ", " + w + ")", x -> x.found(n, w));
            }
            for (int k = 0; k <= chosen; k++) {
                int n = k;
                asked.add("chosen(" + n + ", " + w + ")", x -> x.chosen(n, w));
            }
        }
        for (int i = 0; i <= signs; i++) {
            int n = i;
            asked.add("sign(" + n + ")", x -> x.sign(n));
        }
        asked.finish();
    }

    private static void askTerms(Questions asked) {
        for (int t = 0; t <= MOST_TERMS; t++) {
            int n = t;
            for (int what = 0; what <= 5; what++) {
                int w = what;
                asked.add("termOf(" + n + ", " + w + ")", x -> x.termOf(n, w));
            }
            for (int k = 0; k < MOST_WORDS; k++) {
                askLetters(asked, n, k, MOST_LETTERS);
            }
        }
        for (int e = 0; e <= MOST_ENDINGS; e++) {
            askLetters(asked, e, TermScan.NONE, MOST_ENDING_LETTERS);
        }
    }

    private static void askLetters(Questions asked, int t, int k, int most) {
        for (int i = 0; i < most; i++) {
            int n = i;
            asked.add("letter(" + t + ", " + k + ", " + n + ")", x -> x.letter(t, k, n));
        }
    }

    private static void askText(Questions asked, int words) {
        for (int i = 0; i <= words; i++) {
            int n = i;
            for (int what = 0; what <= 5; what++) {
                int w = what;
                asked.add("word(" + n + ", " + w + ")", x -> x.word(n, w));
            }
            asked.add("longest(" + n + ")", x -> x.longest(n));
            asked.add("same(" + n + ", " + (n + 1) + ")", x -> x.same(n, n + 1));
        }
    }

    /** Questions and their answers, a line each. */
    private static final class Questions {
        private final Scene scene;
        private final String when;
        private final StringBuilder all;
        private final List<String> names = new ArrayList<>();
        private final List<ToIntFunction<TermScan>> calls = new ArrayList<>();

        Questions(Scene scene, String when, StringBuilder all) {
            this.scene = scene;
            this.when = when;
            this.all = all;
        }

        void add(String name, ToIntFunction<TermScan> call) {
            names.add(name);
            calls.add(call);
            if (calls.size() == QUESTIONS_OF_ONE) {
                finish();
            }
        }

        void finish() {
            TermScan x = scene.make();
            for (int i = 0; i < calls.size(); i++) {
                all.append(when).append(": ").append(names.get(i)).append(" = ").append(calls.get(i).applyAsInt(x)).append('\n');
            }
            names.clear();
            calls.clear();
        }
    }
}
