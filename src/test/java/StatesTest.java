import java.util.ArrayList;
import java.util.List;

/**
 * What each call answers in each state: nothing read, a text read, a fault met, one text read after others; what
 * refused calls and questions leave as it was. The answers to some texts are written down by hand.
 */
public final class StatesTest {
    private static final int BAD = Calls.BAD;
    private static final int NONE = Calls.NONE;

    /** A text, and what is due after load() of it. A fault has a place alone. */
    private static final class Known {
        private final String text;
        private final int fault;
        private final int place;
        private long[] counts = {};
        private long[] judged = {};
        private long[][] atoms = {};
        private long[] held = {};
        private long[][] signs = {};
        private long[][] roots = {};
        private long[][] times = {};
        private long[][] simple = {};
        private long[][] cells = {};
        private long[][] signsAt = {};

        Known(String text, int fault, int place) {
            this.text = text;
            this.fault = fault;
            this.place = place;
        }

        /** All answers about the text; when it was not read, that each call is BAD in its own form. */
        void check(String when, Calls calls) {
            String at = when + " '" + text + "': ";
            Report.due(at + "count(0)", calls.count(0), fault);
            Report.due(at + "count(1)", calls.count(1), place);
            if (fault != 0) {
                nothingRead(at, calls);
                return;
            }
            checkWhole(at, calls);
            checkAtoms(at, calls);
            checkCells(at, calls);
            checkRoots(at, calls);
            checkPoints(at, calls);
        }

        private void checkWhole(String at, Calls calls) {
            for (int what = 3; what <= 5; what++) {
                Report.due(at + "count(" + what + ")", calls.count(what), counts[what - 3]);
            }
            for (int what = 0; what <= 8; what++) {
                Report.due(at + "judge(" + what + ")", calls.judge(what), judged[what]);
            }
        }

        private void checkAtoms(String at, Calls calls) {
            for (int i = 0; i < atoms.length; i++) {
                for (int k = 0; k <= 12; k++) {
                    Report.due(at + "atom(" + i + ", " + k + ")", calls.atom(i, k), atoms[i][k]);
                }
            }
            Report.due(at + "one atom more", calls.atom(atoms.length, 0), Calls.BAD_ATOM);
        }

        private void checkCells(String at, Calls calls) {
            for (int cell = 0; cell < held.length; cell++) {
                Report.due(at + "holds(" + cell + ")", calls.holds(cell), held[cell]);
                Report.due(at + "simple(" + cell + ", 0)", calls.simple(cell, 0), simple[cell][0]);
                Report.due(at + "simple(" + cell + ", 1)", calls.simple(cell, 1), simple[cell][1]);
                for (int i = 0; i < atoms.length; i++) {
                    Report.due(at + "sign(" + cell + ", " + i + ")", calls.sign(cell, i), signs[i][cell]);
                }
            }
            Report.due(at + "one cell more, holds", calls.holds(held.length), BAD);
            Report.due(at + "one cell more, simple", calls.simple(held.length, 0), Calls.FAR_BAD);
            Report.due(at + "one cell more, sign", calls.sign(held.length, 0), Calls.BAD_SIGN);
            Report.due(at + "one atom more, sign", calls.sign(0, atoms.length), Calls.BAD_SIGN);
        }

        private void checkRoots(String at, Calls calls) {
            for (int k = 0; k < roots.length; k++) {
                Report.due(at + "root(" + k + ", 0)", calls.root(k, 0), roots[k][0]);
                Report.due(at + "root(" + k + ", 8)", calls.root(k, 8), roots[k][1]);
                Report.due(at + "exact(" + k + ", 0)", calls.exact(k, 0), roots[k][2]);
                Report.due(at + "exact(" + k + ", 1)", calls.exact(k, 1), roots[k][3]);
                Report.due(at + "common(" + k + ")", calls.common(k), roots[k][4]);
                for (int i = 0; i < atoms.length; i++) {
                    Report.due(at + "times(" + k + ", " + i + ")", calls.times(k, i), times[k][i]);
                }
                Report.due(at + "one atom more, times", calls.times(k, atoms.length), BAD);
            }
            Report.due(at + "one root more, root", calls.root(roots.length, 0), Calls.FAR);
            Report.due(at + "one root more, exact", calls.exact(roots.length, 0), Calls.FAR);
            Report.due(at + "one root more, common", calls.common(roots.length), BAD);
            Report.due(at + "one root more, times", calls.times(roots.length, 0), BAD);
        }

        private void checkPoints(String at, Calls calls) {
            for (long[] row : cells) {
                Report.due(at + "cellOf(" + row[0] + ", " + row[1] + ")", calls.cellOf((int) row[0], (int) row[1]), row[2]);
            }
            for (long[] row : signsAt) {
                Report.due(at + "signAt(" + row[0] + ", " + row[1] + ", " + row[2] + ")",
                    calls.signAt((int) row[0], (int) row[1], (int) row[2]), row[3]);
            }
            Report.due(at + "one atom more, signAt", calls.signAt(atoms.length, 0, 1), Calls.BAD_SIGN);
        }
    }

    private static final long[] NO = {Calls.FAR_NONE, Calls.FAR_NONE};

    private static Known twoAtoms() {
        Known known = new Known("x^2<2&x>1", 0, NONE);
        known.counts = new long[] {2, 3, 1};
        known.judged = new long[] {1, 0, 4, 4, 1, 0, 0, 0, 0};
        known.atoms = new long[][] {{-2, 0, 1, 0, 0, 0, 0, 0, 0, 2, 1, 2, 0}, {-1, 1, 0, 0, 0, 0, 0, 0, 0, 1, 2, 1, 0}};
        known.held = new long[] {0, 0, 0, 0, 1, 0, 0};
        known.signs = new long[][] {{1, 0, -1, -1, -1, 0, 1}, {-1, -1, -1, 0, 1, 1, 1}};
        known.roots = new long[][] {{-2, -141421357, NO[0], NO[1], 2}, {1, 100000000, 1, 1, 1},
            {1, 141421356, NO[0], NO[1], 2}};
        known.times = new long[][] {{1, 0}, {0, 1}, {1, 0}};
        known.simple = new long[][] {{-2, 1}, NO, {0, 1}, {1, 1}, {4, 3}, NO, {2, 1}};
        known.cells = new long[][] {{-3, 1, 0}, {0, 7, 2}, {5, 5, 3}, {7, 5, 4}, {3, 2, 6}};
        known.signsAt = new long[][] {{0, 7, 5, -1}, {0, 3, 2, 1}, {1, 7, 5, 1}, {1, 1, 1, 0}, {1, -1, 1, -1}};
        return known;
    }

    private static Known zeroAndDouble() {
        Known known = new Known("~[x-x=0]|(x-1)^2*(3*x+2)=0", 0, NONE);
        known.counts = new long[] {2, 2, 2};
        known.judged = new long[] {1, 0, 1, 3, 2, 1, 1, 0, 0};
        known.atoms = new long[][] {{0, 0, 0, 0, 0, 0, 0, 0, 0, NONE, 0, 0, 0}, {2, -1, -4, 3, 0, 0, 0, 0, 0, 3, 0, 2, 0}};
        known.held = new long[] {0, 1, 0, 1, 0};
        known.signs = new long[][] {{0, 0, 0, 0, 0}, {-1, 0, 1, 0, 1}};
        known.roots = new long[][] {{-1, -66666667, -2, 3, 2}, {1, 100000000, 1, 1, 2}};
        known.times = new long[][] {{NONE, 1}, {NONE, 2}};
        known.simple = new long[][] {{-1, 1}, {-2, 3}, {0, 1}, {1, 1}, {2, 1}};
        known.cells = new long[][] {{-3, 1, 0}, {-4, 6, 1}, {0, 7, 2}, {5, 5, 3}, {7, 5, 4}};
        known.signsAt = new long[][] {{0, 7, 5, 0}, {1, 7, 5, 1}, {1, 1, 1, 0}, {1, -1, 1, -1}};
        return known;
    }

    private static Known nowhere() {
        Known known = new Known("x^2+1<0", 0, NONE);
        known.counts = new long[] {1, 0, 0};
        known.judged = new long[] {0, 0, NONE, NONE, 0, 0, 0, 0, 0};
        known.atoms = new long[][] {{1, 0, 1, 0, 0, 0, 0, 0, 0, 2, 1, 0, 2}};
        known.held = new long[] {0};
        known.signs = new long[][] {{1}};
        known.simple = new long[][] {{0, 1}};
        known.cells = new long[][] {{-3, 1, 0}, {7, 5, 0}};
        known.signsAt = new long[][] {{0, 7, 5, 1}};
        return known;
    }

    private static Known everywhere() {
        Known known = new Known("0=0", 0, NONE);
        known.counts = new long[] {1, 0, 1};
        known.judged = new long[] {1, 1, 0, 0, 1, 0, 0, 1, 1};
        known.atoms = new long[][] {{0, 0, 0, 0, 0, 0, 0, 0, 0, NONE, 0, 0, 0}};
        known.held = new long[] {1};
        known.signs = new long[][] {{0}};
        known.simple = new long[][] {{0, 1}};
        known.cells = new long[][] {{-3, 1, 0}, {7, 5, 0}};
        known.signsAt = new long[][] {{0, 7, 5, 0}};
        return known;
    }

    private static final Known[] TEXTS = {twoAtoms(), zeroAndDouble(), nowhere(), everywhere(), new Known("x=$", 1, 2),
        new Known("x=1]", 2, 3), new Known("x>0|x^9=0", 3, 5), new Known("", 2, 0)};

    public static void main(String[] args) {
        nothingReadYet();
        threeLoadsInAnyOrder();
        signsThatComeChangeNothingElse();
        refusedCallsChangeNothing();
        askingChangesNothing();
        eachCallAloneAfterLoad();
        judgesDoNotDisturbEachOther();
        aLongTextLeavesNothingBehind();
        Report.end();
    }

    private static void nothingRead(String at, Calls calls) {
        for (int what = 3; what <= 5; what++) {
            Report.due(at + "count(" + what + ")", calls.count(what), BAD);
        }
        for (int what = 0; what <= 8; what++) {
            Report.due(at + "judge(" + what + ")", calls.judge(what), BAD);
        }
        for (int i = 0; i <= 1; i++) {
            for (int k = 0; k <= 12; k += 3) {
                Report.due(at + "atom(" + i + ", " + k + ")", calls.atom(i, k), Calls.BAD_ATOM);
            }
            Report.due(at + "holds(" + i + ")", calls.holds(i), BAD);
            Report.due(at + "sign(" + i + ", 0)", calls.sign(i, 0), Calls.BAD_SIGN);
            Report.due(at + "root(" + i + ", 0)", calls.root(i, 0), Calls.FAR);
            Report.due(at + "times(" + i + ", 0)", calls.times(i, 0), BAD);
            Report.due(at + "exact(0, " + i + ")", calls.exact(0, i), Calls.FAR);
            Report.due(at + "common(" + i + ")", calls.common(i), BAD);
            Report.due(at + "simple(0, " + i + ")", calls.simple(0, i), Calls.FAR_BAD);
            Report.due(at + "cellOf(" + i + ", 1)", calls.cellOf(i, 1), BAD);
            Report.due(at + "signAt(" + i + ", 0, 1)", calls.signAt(i, 0, 1), Calls.BAD_SIGN);
        }
    }

    private static void nothingReadYet() {
        Calls calls = new Calls();
        Report.due("a new object: count(0)", calls.count(0), 0);
        Report.due("a new object: count(1)", calls.count(1), NONE);
        Report.due("a new object: count(2)", calls.count(2), 0);
        nothingRead("a new object: ", calls);
        calls.write("x^2<2&x>1");
        Report.due("signs are there: count(0)", calls.count(0), 0);
        Report.due("signs are there: count(1)", calls.count(1), NONE);
        Report.due("signs are there: count(2)", calls.count(2), 9);
        nothingRead("signs are there: ", calls);
        calls.load();
        TEXTS[0].check("read then:", calls);
    }

    private static void load(String when, Known known, Calls calls) {
        calls.write(known.text);
        Report.due(when + " signs of '" + known.text + "'", calls.count(2), known.text.length());
        Report.due(when + " load() of '" + known.text + "'", calls.load(), known.fault);
        Report.due(when + " signs after load()", calls.count(2), 0);
    }

    private static void threeLoadsInAnyOrder() {
        for (Known first : TEXTS) {
            for (Known second : TEXTS) {
                for (Known third : TEXTS) {
                    Calls calls = new Calls();
                    load("first", first, calls);
                    first.check("the first,", calls);
                    load("second", second, calls);
                    second.check("after '" + first.text + "',", calls);
                    load("third", third, calls);
                    third.check("after '" + first.text + "' and '" + second.text + "',", calls);
                }
            }
        }
    }

    private static void signsThatComeChangeNothingElse() {
        for (Known known : TEXTS) {
            Calls calls = new Calls();
            load("signs come:", known, calls);
            calls.type('7');
            known.check("a sign came,", calls);
            calls.four(Calls.packed("=x|$"));
            known.check("four signs came,", calls);
            Report.due("signs", calls.count(2), 5);
            Report.due("load()", calls.load(), 1);
            Report.due("its place", calls.count(1), 4);
        }
    }

    private static void refuse(Calls calls) {
        for (int wrong : new int[] {-1, Calls.LEAST_INT, Calls.GREATEST_INT}) {
            calls.type(wrong);
            calls.four(wrong);
            calls.count(wrong);
            calls.atom(wrong, 0);
            calls.atom(0, wrong);
            calls.judge(wrong);
            calls.holds(wrong);
            calls.sign(wrong, 0);
            calls.sign(0, wrong);
            calls.root(wrong, 0);
            calls.root(0, wrong);
            calls.times(wrong, 0);
            calls.times(0, wrong);
            calls.exact(wrong, 0);
            calls.exact(0, wrong);
            calls.common(wrong);
            calls.simple(wrong, 0);
            calls.simple(0, wrong);
            calls.cellOf(wrong, 0);
            calls.cellOf(Calls.GREATEST_INT, 1);
            calls.signAt(wrong, 0, 1);
            calls.signAt(0, wrong, 0);
        }
        calls.type(31);
        calls.type(127);
        calls.four(0x787F7878);
    }

    private static void refusedCallsChangeNothing() {
        for (Known first : TEXTS) {
            for (Known second : TEXTS) {
                Calls calls = new Calls();
                refuse(calls);
                load("refused before:", first, calls);
                refuse(calls);
                first.check("refused after:", calls);
                calls.write(second.text);
                refuse(calls);
                Report.due("signs", calls.count(2), second.text.length());
                Report.due("load()", calls.load(), second.fault);
                second.check("refused before and after '" + first.text + "',", calls);
            }
        }
        Calls full = Calls.read("x^2<2&x>1");
        full.write("x=1" + " ".repeat(395));
        Report.due("no room for three", full.four(Calls.packed("234")), BAD);
        Report.due("no room for four", full.four(Calls.packed("2345")), BAD);
        Report.due("signs", full.count(2), 398);
        TEXTS[0].check("there was no room,", full);
        full.four(Calls.packed("  "));
        Report.due("no room for one", full.type('2'), BAD);
        Report.due("load()", full.load(), 0);
        Report.due("the text", full.atom(0, 0), -1);
    }

    private static void askingChangesNothing() {
        for (Known known : TEXTS) {
            Calls calls = new Calls();
            load("asked twice:", known, calls);
            known.check("asked once,", calls);
            known.check("asked twice,", calls);
            Calls again = new Calls();
            load("asked in between:", known, again);
            List<Long> once = again.shown();
            Report.due("'" + known.text + "' shown twice is the same", again.shown().equals(once) ? 1 : 0, 1);
        }
    }

    /** No answer may need another question before it. */
    private static void eachCallAloneAfterLoad() {
        for (Known known : TEXTS) {
            List<Long> due = Calls.typedAndLoaded(known.text).shown();
            List<Long> alone = new ArrayList<>();
            for (int i = due.size() - 1; i >= 0; i--) {
                alone.add(0, Calls.typedAndLoaded(known.text).shownAt(i));
            }
            Report.due("'" + known.text + "' asked one by one is the same", alone.equals(due) ? 1 : 0, 1);
        }
    }

    private static void judgesDoNotDisturbEachOther() {
        for (Known one : TEXTS) {
            for (Known other : TEXTS) {
                Calls first = new Calls();
                Calls second = new Calls();
                String a = one.text;
                String b = other.text;
                for (int i = 0; i < Math.max(a.length(), b.length()); i++) {
                    if (i < a.length()) {
                        first.type(a.charAt(i));
                    }
                    if (i < b.length()) {
                        second.type(b.charAt(i));
                    }
                }
                Report.due("the first: load()", first.load(), one.fault);
                Report.due("the second: load()", second.load(), other.fault);
                one.check("beside '" + b + "',", first);
                other.check("beside '" + a + "',", second);
                one.check("once more beside '" + b + "',", first);
            }
        }
    }

    /** 80 roots and 10 atoms before, and then a text with few of them. */
    private static void aLongTextLeavesNothingBehind() {
        StringBuilder longest = new StringBuilder();
        for (int c = 90; c <= 99; c++) {
            longest.append(c > 90 ? "|" : "").append("((x^2-9)^2-40)^2=").append(c);
        }
        for (Known known : TEXTS) {
            Calls calls = Calls.read(longest.toString());
            Report.due("roots", calls.count(4), 80);
            Report.due("between 4.00798.. and 4.00843..", calls.simple(158, 1), 119);
            load("after 80 roots:", known, calls);
            known.check("after 80 roots:", calls);
            calls.write(longest.toString());
            Report.due("load()", calls.load(), 0);
            Report.due("80 roots again", calls.count(4), 80);
            Report.due("at all of them", calls.count(5), 80);
            Report.due("the last root", calls.root(79, 8), 400843142L);
        }
    }
}
