import java.util.ArrayList;
import java.util.List;
import java.util.function.LongSupplier;

/**
 * A judge whose calls are counted: nothing is promised beyond the 512th, so a test that goes beyond it is
 * wrong itself. It also knows some groups of calls that several tests need.
 */
final class Calls {
    static final int MOST = 512;
    static final int LEAST_INT = Integer.MIN_VALUE;
    static final int GREATEST_INT = Integer.MAX_VALUE;
    static final int BAD = -1;
    static final int NONE = -2;
    static final int BAD_ATOM = -2000000000;
    static final int BAD_SIGN = -2;
    static final long FAR = -9000000000000000000L;
    static final long FAR_BAD = -9000000000000000001L;
    static final long FAR_NONE = -9000000000000000002L;
    static final long FAR_GREAT = -9000000000000000003L;

    private final RootJudge judge = new RootJudge();
    private int made = 0;

    static Calls typed(String text) {
        Calls calls = new Calls();
        calls.write(text);
        return calls;
    }

    static Calls typedAndLoaded(String text) {
        Calls calls = typed(text);
        calls.load();
        return calls;
    }

    static Calls read(String text) {
        Calls calls = typed(text);
        Report.due("load() of " + text, calls.load(), 0);
        return calls;
    }

    /** The text comes by four signs a call, so that long ones leave calls for asking. */
    void write(String text) {
        for (int at = 0; at < text.length(); at += 4) {
            four(packed(text.substring(at, Math.min(text.length(), at + 4))));
        }
    }

    static int packed(String signs) {
        int number = 0;
        for (int i = 0; i < 4; i++) {
            number = (number << 8) | (i < signs.length() ? signs.charAt(i) : 0);
        }
        return number;
    }

    int made() {
        return made;
    }

    private RootJudge judge() {
        made++;
        if (made > MOST) {
            throw new IllegalStateException("the test makes more calls than are promised");
        }
        return judge;
    }

    int type(int c) {
        return judge().type(c);
    }

    int four(int signs) {
        return judge().four(signs);
    }

    int load() {
        return judge().load();
    }

    int count(int what) {
        return judge().count(what);
    }

    int atom(int i, int k) {
        return judge().atom(i, k);
    }

    int judge(int what) {
        return judge().judge(what);
    }

    int holds(int cell) {
        return judge().holds(cell);
    }

    int sign(int cell, int atom) {
        return judge().sign(cell, atom);
    }

    long root(int k, int n) {
        return judge().root(k, n);
    }

    int times(int k, int atom) {
        return judge().times(k, atom);
    }

    long exact(int k, int what) {
        return judge().exact(k, what);
    }

    int common(int k) {
        return judge().common(k);
    }

    long simple(int cell, int what) {
        return judge().simple(cell, what);
    }

    int cellOf(int above, int below) {
        return judge().cellOf(above, below);
    }

    int signAt(int atom, int above, int below) {
        return judge().signAt(atom, above, below);
    }

    /** A load that answers this fault at this place, and count that tells the same. */
    static void fault(String text, int kind, int place) {
        Calls calls = typed(text);
        Report.due("load() of '" + text + "'", calls.load(), kind);
        Report.due("count(0) after '" + text + "'", calls.count(0), kind);
        Report.due("count(1) after '" + text + "'", calls.count(1), kind == 0 ? NONE : place);
    }

    static void fine(String text) {
        fault(text, 0, NONE);
    }

    /** All that asks for what was read is BAD, each in its own form. */
    void nothingRead(String when) {
        for (int i : new int[] {0, 1, 2, 3, 4, 5, 6, 7, 8, 12}) {
            for (int j : new int[] {0, 1}) {
                Report.due(when + " atom", atom(i, j), BAD_ATOM);
                Report.due(when + " sign", sign(i, j), BAD_SIGN);
                Report.due(when + " root", root(i, j), FAR);
                Report.due(when + " times", times(i, j), BAD);
                Report.due(when + " exact", exact(i, j), FAR);
                Report.due(when + " simple", simple(i, j), FAR_BAD);
            }
            if (i >= 3) {
                Report.due(when + " count", count(i), BAD);
            }
            Report.due(when + " judge", judge(i), BAD);
            Report.due(when + " holds", holds(i), BAD);
            Report.due(when + " common", common(i), BAD);
            Report.due(when + " cellOf", cellOf(i, 1), BAD);
            Report.due(when + " signAt", signAt(0, i, 1), BAD_SIGN);
        }
    }

    /** Everything that can be asked of a text with up to 3 atoms and 3 roots, in some 150 calls. */
    private List<LongSupplier> questions() {
        List<LongSupplier> all = new ArrayList<>();
        for (int n = 0; n <= 8; n++) {
            int what = n;
            all.add(() -> count(what));
            all.add(() -> judge(what));
        }
        for (int n = 0; n < 3; n++) {
            addAtom(all, n);
            addRoot(all, n);
        }
        for (int n = 0; n < 7; n++) {
            int cell = n;
            all.add(() -> holds(cell));
            all.add(() -> simple(cell, 0));
            all.add(() -> simple(cell, 1));
        }
        all.add(() -> cellOf(-3, 2));
        all.add(() -> cellOf(3, 2));
        return all;
    }

    private void addAtom(List<LongSupplier> all, int i) {
        for (int n = 0; n <= 12; n++) {
            int k = n;
            all.add(() -> atom(i, k));
        }
        all.add(() -> signAt(i, 3, 2));
        for (int n = 0; n < 7; n++) {
            int cell = n;
            all.add(() -> sign(cell, i));
        }
    }

    private void addRoot(List<LongSupplier> all, int k) {
        all.add(() -> root(k, 0));
        all.add(() -> root(k, 8));
        all.add(() -> exact(k, 0));
        all.add(() -> exact(k, 1));
        all.add(() -> common(k));
        for (int n = 0; n < 3; n++) {
            int i = n;
            all.add(() -> times(k, i));
        }
    }

    List<Long> shown() {
        List<Long> answers = new ArrayList<>();
        for (LongSupplier question : questions()) {
            answers.add(question.getAsLong());
        }
        return answers;
    }

    /** One of these answers, without asking for the others. */
    long shownAt(int i) {
        return questions().get(i).getAsLong();
    }
}
