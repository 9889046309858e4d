import java.util.function.ToIntFunction;

/** What the project's tests share: compares answers, counts those that are wrong, and feeds whole texts to a TermScan. */
final class Due {
    private static final int MOST_TOLD = 40;

    private int asked = 0;
    private int wrong = 0;

    void is(String call, long got, long want) {
        asked++;
        if (got != want) {
            fail(call + " answered " + got + ", due is " + want);
        }
    }

    void isTrue(String what, boolean holds) {
        asked++;
        if (!holds) {
            fail(what);
        }
    }

    /** The call is refused, and nothing has changed behind it, whether or not something was asked ahead of it. */
    void refused(String call, Scene scene, ToIntFunction<TermScan> made, int want) {
        is(call, made.applyAsInt(scene.make()), want);
        alike(call + " changes nothing", scene.then(x -> made.applyAsInt(x)), scene);
        alike(call + " changes nothing that was asked ahead", scene.then(Due::askAhead).then(x -> made.applyAsInt(x)), scene);
    }

    private static void askAhead(TermScan x) {
        x.told(6);
        x.told(11);
    }

    /** The two cannot be told apart by any question. */
    void alike(String what, Scene got, Scene want) {
        asked++;
        if (!got.state().equals(want.state())) {
            fail(what + ": " + firstApart(got.state().split("\n"), want.state().split("\n")));
        }
    }

    private static String firstApart(String[] got, String[] want) {
        for (int i = 0; i < got.length && i < want.length; i++) {
            if (!got[i].equals(want[i])) {
                return "'" + got[i] + "', due is '" + want[i] + "'";
            }
        }
        return got.length + " answers, due are " + want.length;
    }

    private void fail(String line) {
        wrong++;
        if (wrong <= MOST_TOLD) {
            System.out.println(line);
        }
    }

    void finish(String name) {
        System.out.println(name + ": " + asked + " answers asked, " + wrong + " wrong");
        if (wrong != 0) {
            System.exit(1);
        }
    }

    static void spell(TermScan x, String signs) {
        for (int i = 0; i < signs.length(); i++) {
            x.spell(signs.charAt(i));
        }
    }

    static int term(TermScan x, String words, int weight, int bent) {
        spell(x, words);
        return x.term(weight, bent);
    }

    static int ending(TermScan x, String letters) {
        spell(x, letters);
        return x.ending();
    }

    static int read(TermScan x, String signs) {
        int answer = x.told(3);
        for (int i = 0; i < signs.length(); i++) {
            answer = x.read(signs.charAt(i));
        }
        return answer;
    }

    static String mended(TermScan x) {
        StringBuilder all = new StringBuilder();
        int sign = x.sign(0);
        for (int i = 1; sign != TermScan.NONE; i++) {
            all.append((char) sign);
            sign = x.sign(i);
        }
        return all.toString();
    }
}
