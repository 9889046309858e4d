import java.util.ArrayList;
import java.util.List;

/**
 * The document's words once more, as plainly as they can be followed: texts, lists, and everything
 * worked out anew at each call. Slow, and of another make than TermScan, so that they can be compared.
 */
final class Model {
    private static final int NONE = -1, UNKNOWN = -1000000001, OUTSIDE = -1000000002, NOT = -1000000003, FULL = -1000000004;
    /** Up to so many FOUND all ways to choose are gone through, one by one. */
    private static final int MOST_FOR_ALL_WAYS = 16;

    private static final class Term {
        List<String> words;
        int weight;
        int bent;
        Term preferred;
    }

    private static final class Word {
        String letters;
        boolean tooLong;
        int sentence;
    }

    private static final class Place {
        int at;
        int number;
        Term term;

        int size() {
            return term.words.size();
        }

        int worth() {
            return term.weight * size();
        }
    }

    private static final class Image {
        List<Term> terms;
        List<String> endings;
    }

    private String slip = "";
    private List<Term> terms = new ArrayList<>();
    private List<String> endings = new ArrayList<>();
    private final List<Word> text = new ArrayList<>();
    private String coming = "";
    private int sentencesEnded = 0;
    private final Image[] images = new Image[2];

    // ---- terms, endings

    int spell(int sign) {
        if (sign != ' ' && (sign < 'a' || sign > 'z')) return OUTSIDE;
        if (slip.length() == 50) return FULL;
        slip += (char) sign;
        return slip.length();
    }

    private List<String> slipWords() {
        List<String> words = new ArrayList<>();
        for (String part : slip.split(" ")) {
            if (!part.isEmpty()) words.add(part);
        }
        return words;
    }

    int term(int weight, int bent) {
        if (weight < 1 || weight > 9 || bent < 0 || bent > 1) return OUTSIDE;
        List<String> words = slipWords();
        slip = "";
        if (words.isEmpty() || words.size() > 4) return NOT;
        for (String w : words) {
            if (w.length() > 12) return NOT;
        }
        for (Term t : terms) {
            if (t.words.equals(words)) return NOT;
        }
        if (terms.size() == 8) return FULL;
        Term t = new Term();
        t.words = words;
        t.weight = weight;
        t.bent = bent;
        terms.add(t);
        return terms.size() - 1;
    }

    int ending() {
        List<String> words = slipWords();
        slip = "";
        if (words.size() != 1 || words.get(0).length() > 4 || endings.contains(words.get(0))) return NOT;
        if (endings.size() == 5) return FULL;
        endings.add(words.get(0));
        return endings.size() - 1;
    }

    private boolean noTerm(int t) {
        return t < 0 || t >= terms.size();
    }

    private boolean isPreferred(Term t) {
        for (Term other : terms) {
            if (other.preferred == t) return true;
        }
        return false;
    }

    private int forbidden() {
        int n = 0;
        for (Term t : terms) {
            if (t.preferred != null) n++;
        }
        return n;
    }

    int dropTerm(int t) {
        if (noTerm(t)) return UNKNOWN;
        if (isPreferred(terms.get(t))) return NOT;
        terms.remove(t);
        return terms.size();
    }

    int dropEnding(int e) {
        if (e < 0 || e >= endings.size()) return UNKNOWN;
        endings.remove(e);
        return endings.size();
    }

    int forbid(int t, int u) {
        if (noTerm(t) || noTerm(u) || t == u) return UNKNOWN;
        if (isPreferred(terms.get(t)) || terms.get(u).preferred != null) return NOT;
        terms.get(t).preferred = terms.get(u);
        return forbidden();
    }

    int allow(int t) {
        if (noTerm(t)) return UNKNOWN;
        if (terms.get(t).preferred == null) return NOT;
        terms.get(t).preferred = null;
        return forbidden();
    }

    int change(int t, int what, int v) {
        if (noTerm(t)) return UNKNOWN;
        if (what < 0 || what > 1) return OUTSIDE;
        if (what == 0 ? v < 1 || v > 9 : v < 0 || v > 1) return OUTSIDE;
        Term term = terms.get(t);
        int was = what == 0 ? term.weight : term.bent;
        if (what == 0) term.weight = v;
        else term.bent = v;
        return was;
    }

    int termOf(int t, int what) {
        if (noTerm(t)) return UNKNOWN;
        Term term = terms.get(t);
        if (what == 0) return term.words.size();
        if (what == 1) return term.weight;
        if (what == 2) return term.bent;
        if (what == 3) return terms.indexOf(term.preferred);
        if (what == 4 || what == 5) {
            int n = 0;
            for (Place p : what == 4 ? allFound() : allChosen()) {
                if (p.term == term) n++;
            }
            return n;
        }
        return OUTSIDE;
    }

    int letter(int t, int k, int i) {
        if (k == NONE ? t < 0 || t >= endings.size() : noTerm(t)) return UNKNOWN;
        if (i < 0) return OUTSIDE;
        if (k != NONE && (k < 0 || k >= terms.get(t).words.size())) return OUTSIDE;
        String letters = k == NONE ? endings.get(t) : terms.get(t).words.get(k);
        return i < letters.length() ? letters.charAt(i) : NONE;
    }

    // ---- the text

    int read(int sign) {
        if (sign < 0 || sign > 255) return OUTSIDE;
        boolean isLetter = sign >= 'a' && sign <= 'z';
        if (isLetter && text.size() == 60) return FULL;
        if (isLetter) {
            coming += (char) sign;
            return text.size();
        }
        if (!coming.isEmpty()) {
            Word w = new Word();
            w.tooLong = coming.length() > 12;
            w.letters = w.tooLong ? coming.substring(0, 12) : coming;
            w.sentence = sentencesEnded;
            text.add(w);
            coming = "";
        }
        if (sign == '.' && !text.isEmpty() && text.get(text.size() - 1).sentence == sentencesEnded) sentencesEnded++;
        return text.size();
    }

    int wipe() {
        int had = text.size();
        text.clear();
        coming = "";
        sentencesEnded = 0;
        return had;
    }

    private long lot;

    private int nextLot(int by) {
        lot = lot * 16807 % 2147483647L;
        return (int) (lot % by);
    }

    int drift(int n, int seed) {
        if (n < 1 || n > 30 || seed < 1 || seed > 999999) return OUTSIDE;
        lot = seed;
        for (int i = 0; i < n; i++) {
            if (nextLot(8) == 0) {
                read('.');
            } else if (!terms.isEmpty()) {
                if (text.size() == 60) break;
                List<String> words = terms.get(nextLot(terms.size())).words;
                String signs = words.get(nextLot(words.size()));
                int third = nextLot(3);
                if (third == 0 && !endings.isEmpty()) signs += endings.get(nextLot(endings.size()));
                signs += ' ';
                for (char c : signs.toCharArray()) read(c);
            }
        }
        return text.size();
    }

    private boolean noWord(int i) {
        return i < 0 || i >= text.size();
    }

    private boolean meets(Word w, Term t, int k) {
        if (w.tooLong) return false;
        String wanted = t.words.get(k);
        if (w.letters.equals(wanted)) return true;
        for (String e : endings) {
            if (t.bent == 1 && w.letters.equals(wanted + e)) return true;
        }
        return false;
    }

    /** Whether the WORDS from i on, of one SENTENCE, MEET the first n of a TERM. */
    private boolean meetAll(int i, Term t, int n) {
        if (i < 0 || i + n > text.size() || n > t.words.size()) return false;
        for (int k = 0; k < n; k++) {
            if (text.get(i + k).sentence != text.get(i).sentence || !meets(text.get(i + k), t, k)) return false;
        }
        return true;
    }

    private List<Place> allFound() {
        List<Place> all = new ArrayList<>();
        for (int i = 0; i < text.size(); i++) {
            for (int t = 0; t < terms.size(); t++) {
                if (meetAll(i, terms.get(t), terms.get(t).words.size())) {
                    Place p = new Place();
                    p.at = i;
                    p.number = t;
                    p.term = terms.get(t);
                    all.add(p);
                }
            }
        }
        return all;
    }

    private static int worth(List<Place> places) {
        int sum = 0;
        for (Place p : places) sum += p.worth();
        return sum;
    }

    private static boolean isBetter(List<Place> a, List<Place> b) {
        if (worth(a) != worth(b)) return worth(a) > worth(b);
        if (a.size() != b.size()) return a.size() < b.size();
        for (int k = 0; k < a.size(); k++) {
            Place p = a.get(k);
            Place q = b.get(k);
            if (p.at != q.at) return p.at < q.at;
            if (p.size() != q.size()) return p.size() > q.size();
            if (p.number != q.number) return p.number < q.number;
        }
        return false;
    }

    private List<Place> allChosen() {
        List<Place> all = allFound();
        if (all.size() > MOST_FOR_ALL_WAYS) return bestFromEachWord(all);
        best = new ArrayList<>();
        goThrough(all, 0, new ArrayList<>(), 0);
        return best;
    }

    private List<Place> best;

    private void goThrough(List<Place> all, int next, List<Place> way, int free) {
        if (next == all.size()) {
            if (isBetter(way, best)) best = new ArrayList<>(way);
            return;
        }
        Place p = all.get(next);
        if (p.at >= free) {
            way.add(p);
            goThrough(all, next + 1, way, p.at + p.size());
            way.remove(way.size() - 1);
        }
        goThrough(all, next + 1, way, free);
    }

    private List<Place> bestFromEachWord(List<Place> all) {
        List<List<Place>> from = new ArrayList<>();
        for (int i = 0; i <= text.size(); i++) from.add(new ArrayList<>());
        for (int i = text.size() - 1; i >= 0; i--) {
            List<Place> top = from.get(i + 1);
            for (Place p : all) {
                if (p.at == i) {
                    List<Place> way = new ArrayList<>();
                    way.add(p);
                    way.addAll(from.get(i + p.size()));
                    if (isBetter(way, top)) top = way;
                }
            }
            from.set(i, top);
        }
        return from.get(0);
    }

    private static boolean covers(Place p, int i) {
        return p.at <= i && i < p.at + p.size();
    }

    int word(int i, int what) {
        if (noWord(i)) return UNKNOWN;
        if (what < 0 || what > 5) return OUTSIDE;
        Word w = text.get(i);
        if (what == 0) return w.letters.length();
        if (what == 1) return w.sentence;
        if (what == 2) return w.tooLong ? 1 : 0;
        if (what == 3) return reach(i);
        if (what == 4) {
            int set = 0;
            for (Place p : allFound()) {
                if (covers(p, i)) set |= 1 << p.number;
            }
            return set;
        }
        List<Place> chosen = allChosen();
        for (int k = 0; k < chosen.size(); k++) {
            if (covers(chosen.get(k), i)) return k;
        }
        return NONE;
    }

    private int reach(int i) {
        int most = 0;
        for (Term t : terms) {
            for (int n = 1; n <= t.words.size(); n++) {
                if (meetAll(i - n + 1, t, n)) most = Math.max(most, n);
            }
        }
        return most;
    }

    int told(int what) {
        switch (what) {
            case 0: return terms.size();
            case 1: return endings.size();
            case 2: return slip.length();
            case 3: return text.size();
            case 4: return sentencesEnded;
            case 5: return Math.min(12, coming.length());
            case 6: return allFound().size();
            case 7: return allChosen().size();
            case 8: return worth(allChosen());
            case 9: return allChosen().stream().mapToInt(Place::size).sum();
            case 10: return (int) allChosen().stream().filter(p -> p.term.preferred != null).count();
            case 11: return mended().length();
            case 12: {
                int set = 0;
                for (int t = 0; t < terms.size(); t++) {
                    if (terms.get(t).preferred != null) set += 1 << t;
                }
                return set;
            }
            default: return OUTSIDE;
        }
    }

    int found(int k, int what) {
        if (k < 0 || what < 0 || what > 3) return OUTSIDE;
        List<Place> all = allFound();
        if (k >= all.size()) return NONE;
        Place p = all.get(k);
        if (what == 0) return p.at;
        if (what == 1) return p.number;
        if (what == 2) return p.worth();
        for (Place q : allChosen()) {
            if (q.at == p.at && q.term == p.term) return 1;
        }
        return 0;
    }

    int chosen(int k, int what) {
        if (k < 0 || what < 0 || what > 3) return OUTSIDE;
        List<Place> all = allChosen();
        if (k >= all.size()) return NONE;
        Place p = all.get(k);
        if (what == 0) return p.at;
        if (what == 1) return p.number;
        if (what == 2) return p.worth();
        return terms.indexOf(p.term.preferred);
    }

    int longest(int i) {
        if (noWord(i)) return UNKNOWN;
        Place top = null;
        for (Place p : allFound()) {
            if (p.at != i) continue;
            if (top == null || p.size() > top.size() || p.size() == top.size() && p.term.weight > top.term.weight) top = p;
        }
        return top == null ? NONE : top.number;
    }

    private String mended() {
        List<Place> chosen = allChosen();
        StringBuilder all = new StringBuilder();
        int i = 0;
        while (i < text.size()) {
            String piece = text.get(i).letters;
            int last = i;
            for (Place p : chosen) {
                if (p.at == i && p.term.preferred != null) {
                    piece = String.join(" ", p.term.preferred.words);
                    last = i + p.size() - 1;
                }
            }
            if (i > 0) all.append(' ');
            all.append(piece);
            int sentence = text.get(last).sentence;
            boolean ends = last == text.size() - 1 ? sentencesEnded > sentence : text.get(last + 1).sentence > sentence;
            if (ends) all.append('.');
            i = last + 1;
        }
        return all.toString();
    }

    int sign(int i) {
        if (i < 0) return OUTSIDE;
        String all = mended();
        return i < all.length() ? all.charAt(i) : NONE;
    }

    int same(int i, int j) {
        if (noWord(i) || noWord(j) || i == j) return UNKNOWN;
        Word a = text.get(i);
        Word b = text.get(j);
        return !a.tooLong && !b.tooLong && a.letters.equals(b.letters) ? 1 : 0;
    }

    // ---- images

    private static List<Term> copy(List<Term> terms) {
        List<Term> copies = new ArrayList<>();
        for (Term t : terms) {
            Term c = new Term();
            c.words = t.words;
            c.weight = t.weight;
            c.bent = t.bent;
            copies.add(c);
        }
        for (int t = 0; t < terms.size(); t++) {
            int p = terms.indexOf(terms.get(t).preferred);
            copies.get(t).preferred = p < 0 ? null : copies.get(p);
        }
        return copies;
    }

    int keep(int i) {
        if (i < 0 || i > 1) return UNKNOWN;
        images[i] = new Image();
        images[i].terms = copy(terms);
        images[i].endings = new ArrayList<>(endings);
        return terms.size();
    }

    int goBack(int i) {
        if (i < 0 || i > 1) return UNKNOWN;
        if (images[i] == null) return NOT;
        terms = copy(images[i].terms);
        endings = new ArrayList<>(images[i].endings);
        return terms.size();
    }
}
