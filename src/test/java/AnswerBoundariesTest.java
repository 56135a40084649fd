import java.util.List;

/**
 * The boundaries of what is answered about a text: section 'Terms' (roots, cells, the simple fraction) and
 * promises 5 to 16. Each method stands for a sentence: the last value that is taken, and the first that is refused.
 */
public final class AnswerBoundariesTest {
    private static final int BAD = Calls.BAD;
    private static final int NONE = Calls.NONE;
    private static final int[] ENDS = {Calls.LEAST_INT, Calls.LEAST_INT + 1, Calls.GREATEST_INT - 1, Calls.GREATEST_INT};

    public static void main(String[] args) {
        noRootAtAll();
        firstAndLastCell();
        eightyRoots();
        rootsCountOnce();
        rootsRiseHoweverNear();
        rootsOfOneAtomHoweverNear();
        eachLoadBeginsAnew();
        simpleIsNearestToZero();
        countBeforeAndAfter();
        countOfOther();
        atomOfEachPower();
        atomThatIsZero();
        atomRootsThatAreNotReal();
        atomOfNone();
        judgeNowhere();
        judgeEverywhere();
        judgeLeastAndGreatest();
        judgePieces();
        judgeOfOther();
        holdsAtTheEnds();
        signAtTheEnds();
        rootBelowZero();
        rootScaled();
        rootCloseToWholeNumbers();
        rootCloseToMarks();
        rootsAround2();
        rootOfNone();
        timesOfZero();
        timesOfNone();
        exactInLeastTerms();
        fractionsNearARootAreNotIt();
        exactOfNone();
        common();
        commonOnlyModuloPrimes();
        simpleOf2000And2001();
        simpleAllButMeetsARoot();
        simpleOfNone();
        cellOfEdges();
        signAtEdges();
        endsOfInt();
        refusedCallsChangeNothing();
        Report.end();
    }

    private static void due(String sentence, long got, long want) {
        Report.due(sentence, got, want);
    }

    private static void noRootAtAll() {
        for (String text : new String[] {"x^2+1>0", "7>0", "x=x", "0=0&x=x", "x^8+x^4+1>0|3<2"}) {
            Calls calls = Calls.read(text);
            due("roots of " + text, calls.count(4), 0);
            due("cells in which it holds", calls.count(5), 1);
            due("holds(0)", calls.holds(0), 1);
            due("holds(1)", calls.holds(1), BAD);
            due("sign(1, 0)", calls.sign(1, 0), Calls.BAD_SIGN);
            due("root(0, 0)", calls.root(0, 0), Calls.FAR);
            due("times(0, 0)", calls.times(0, 0), BAD);
            due("exact(0, 0)", calls.exact(0, 0), Calls.FAR);
            due("common(0)", calls.common(0), BAD);
            due("simple(0, 0)", calls.simple(0, 0), 0);
            due("simple(0, 1)", calls.simple(0, 1), 1);
            due("simple(1, 0)", calls.simple(1, 0), Calls.FAR_BAD);
            due("cellOf(-1000000000, 1)", calls.cellOf(-1000000000, 1), 0);
            due("cellOf(1000000000, 1)", calls.cellOf(1000000000, 1), 0);
            long[] judged = {1, 1, 0, 0, 1, 0, 0, 1, 1};
            for (int what = 0; what <= 8; what++) {
                due("judge(" + what + ") of " + text, calls.judge(what), judged[what]);
            }
        }
    }

    private static void firstAndLastCell() {
        Calls calls = Calls.read("x<1|x>2");
        due("cell 0 is below all", calls.holds(0), 1);
        due("cell 2", calls.holds(2), 0);
        due("cell 4 is above all", calls.holds(4), 1);
        due("there is no cell 5", calls.holds(5), BAD);
        due("there is no cell -1", calls.holds(-1), BAD);
        due("cellOf below all", calls.cellOf(-1000000000, 1), 0);
        due("cellOf above all", calls.cellOf(1000000000, 1), 4);
        Calls one = Calls.read("x=0");
        due("below 0", one.cellOf(-1, 1000000000), 0);
        due("at 0", one.cellOf(0, 1000000000), 1);
        due("above 0", one.cellOf(1, 1000000000), 2);
        due("there is no cell 3", one.holds(3), BAD);
    }

    private static void eightyRoots() {
        StringBuilder text = new StringBuilder();
        for (int c = 90; c <= 99; c++) {
            text.append(c > 90 ? "|" : "").append("((x^2-9)^2-40)^2=").append(c);
        }
        Calls calls = Calls.read(text.toString());
        due("atoms", calls.count(3), 10);
        due("roots", calls.count(4), 80);
        due("it holds at all roots", calls.count(5), 80);
        due("pieces", calls.judge(4), 80);
        due("the first cell", calls.judge(2), 1);
        due("the last cell", calls.judge(3), 159);
        for (int cell = 0; cell <= 160; cell++) {
            due("holds(" + cell + ")", calls.holds(cell), cell % 2);
        }
        due("holds(161)", calls.holds(161), BAD);
        due("root(0, 8)", calls.root(0, 8), -400843143L);
        due("root(1, 8)", calls.root(1, 8), -400798671L);
        due("root(78, 8)", calls.root(78, 8), 400798670L);
        due("root(79, 8)", calls.root(79, 8), 400843142L);
        due("root(80, 8)", calls.root(80, 8), Calls.FAR);
        for (int i = 0; i < 10; i++) {
            due("roots of atom " + i, calls.atom(i, 11), 8);
            due("times(79, " + i + ")", calls.times(79, i), i == 9 ? 1 : 0);
            due("sign(160, " + i + ")", calls.sign(160, i), 1);
        }
        due("common(79)", calls.common(79), 8);
        due("sign(160, 10)", calls.sign(160, 10), Calls.BAD_SIGN);
        due("sign(161, 9)", calls.sign(161, 9), Calls.BAD_SIGN);
        due("simple(160, 0)", calls.simple(160, 0), 5);
        due("simple(0, 0)", calls.simple(0, 0), -5);
        due("simple(80, 0)", calls.simple(80, 0), 0);
        due("simple(161, 0)", calls.simple(161, 0), Calls.FAR_BAD);
        due("cellOf(5, 1)", calls.cellOf(5, 1), 160);
    }

    private static void rootsCountOnce() {
        Calls calls = Calls.read("x^2=1|x=1|(x-1)^8=0|x^2+x=2|x=x|x^2+1=0");
        due("roots", calls.count(4), 3);
        due("-2", calls.root(0, 0), -2);
        due("-1", calls.root(1, 0), -1);
        due("1", calls.root(2, 0), 1);
        due("root 3", calls.root(3, 0), Calls.FAR);
    }

    /** One root of each of both atoms lies at 1 / 1,000,000,000, apart by less than 10 to the power -70. */
    private static void rootsRiseHoweverNear() {
        for (int turn = 0; turn <= 1; turn++) {
            String lower = "x^8-10^9*x+1=0";
            String upper = "x^7-10^9*x+1=0";
            Calls calls = Calls.read(turn == 0 ? lower + "|" + upper : upper + "|" + lower);
            due("roots", calls.count(4), 5);
            due("the second is the lower one's", calls.times(1, turn), 1);
            due("and only its", calls.times(1, 1 - turn), 0);
            due("the third is the upper one's", calls.times(2, 1 - turn), 1);
            due("and only its", calls.times(2, turn), 0);
            due("between them the lower one is below 0", calls.sign(4, turn), -1);
            due("and the upper one is not", calls.sign(4, 1 - turn), 1);
            due("no small denominator between them", calls.simple(4, 1), Calls.FAR_GREAT);
            due("just below", calls.cellOf(1, 1000000000), 2);
            due("just above", calls.cellOf(1, 999999999), 6);
        }
    }

    /** Two roots lie some 10 to the power -22 apart, 1 / 22,360 (or that below 0) between them. */
    private static void rootsOfOneAtomHoweverNear() {
        for (int way = -1; way <= 1; way += 2) {
            Calls calls = Calls.read("x^8>2*(22360*x" + (way < 0 ? "+" : "-") + "1)^2");
            due("roots", calls.count(4), 4);
            due("left of both", calls.cellOf(way * 44722, 999983920 + way), 2);
            due("between them", calls.cellOf(way, 22360), 4);
            due("right of both", calls.cellOf(way * 44722, 999983920 - way), 6);
            due("it holds between them", calls.holds(4), 1);
            due("but not left of both", calls.holds(2), 0);
            due("nor right of both", calls.holds(6), 0);
            due("pieces", calls.judge(4), 3);
            for (int k = 1; k <= 2; k++) {
                due("root(" + k + ", 0)", calls.root(k, 0), way < 0 ? -1 : 0);
                due("root(" + k + ", 8)", calls.root(k, 8), way < 0 ? -4473 : 4472);
                due("exact(" + k + ", 0)", calls.exact(k, 0), Calls.FAR_NONE);
            }
            due("the denominator between them", calls.simple(4, 1), Calls.FAR_GREAT);
        }
    }

    private static void eachLoadBeginsAnew() {
        String[] texts = {"x^2=2|2*x>3|x-x=0", "(x^2+1)^2*(x-1)^3>0|~x^4=1", "x=1", "x^2+1<0", "7<0", "x^8=x|x^2=3",
            "(x^2-2)*(x^2+5)<0&~(x^2-3)*(x^2+5)<0", "x^8>2*(22360*x-1)^2"};
        for (String before : texts) {
            for (String text : texts) {
                Calls calls = Calls.read(before);
                calls.shown();
                calls.write(text);
                due("load()", calls.load(), 0);
                boolean same = calls.shown().equals(Calls.read(text).shown());
                due("what is shown of " + text + " after " + before, same ? 1 : 0, 1);
            }
        }
    }

    private static void simple(String text, int cell, long above, long below) {
        Calls calls = Calls.read(text);
        due("simple(" + cell + ", 0) of " + text, calls.simple(cell, 0), above);
        due("simple(" + cell + ", 1) of " + text, calls.simple(cell, 1), below);
    }

    /** Two fractions equally near to 0 have 0 between them: where they lie in one cell, it is the simple one. */
    private static void simpleIsNearestToZero() {
        simple("x^2=9", 0, -4, 1);
        simple("x^2=9", 2, 0, 1);
        simple("x^2=9", 4, 4, 1);
        simple("x^2=2", 2, 0, 1);
        simple("x=0", 0, -1, 1);
        simple("x=0", 1, 0, 1);
        simple("x=0", 2, 1, 1);
        simple("(x-5)*(x-9)=0", 2, 6, 1);
        simple("(x+5)*(x+9)=0", 2, -6, 1);
        simple("(x-5)*(x-6)=0", 2, 11, 2);
        simple("(x+5)*(x+6)=0", 2, -11, 2);
        simple("x*(x-1)=0", 2, 1, 2);
        simple("x*(x+1)=0", 2, -1, 2);
        simple("(3*x-1)*(2*x-1)=0", 2, 2, 5);
        simple("(3*x+1)*(2*x+1)=0", 2, -2, 5);
        simple("(3*x+1)*(2*x-1)=0", 2, 0, 1);
        simple("x=10^9", 0, 0, 1);
        simple("x=10^9", 1, 1000000000, 1);
        simple("x=10^9", 2, 1000000001, 1);
        simple("x+10^9=0", 0, -1000000001, 1);
        simple("x+10^9=0", 2, 0, 1);
        simple("x^2-10^9*x-1=0", 4, 1000000001, 1);
        simple("x^2+10^9*x-1=0", 0, -1000000001, 1);
        simple("x^2+10^9*x+1=0", 0, -1000000000, 1);
    }

    private static void counts(String when, Calls calls, long... want) {
        for (int what = 0; what <= 5; what++) {
            due(when + " count(" + what + ")", calls.count(what), want[what]);
        }
        due(when + " count(-1)", calls.count(-1), BAD);
        due(when + " count(6)", calls.count(6), BAD);
    }

    private static void countBeforeAndAfter() {
        Calls calls = new Calls();
        counts("a new object:", calls, 0, NONE, 0, BAD, BAD, BAD);
        calls.write("x^2<2&x>0");
        counts("typed:", calls, 0, NONE, 9, BAD, BAD, BAD);
        calls.load();
        counts("read:", calls, 0, NONE, 0, 2, 3, 1);
        calls.write("x=$");
        counts("typed again:", calls, 0, NONE, 3, 2, 3, 1);
        calls.load();
        counts("fault 1:", calls, 1, 2, 0, BAD, BAD, BAD);
        calls.write(" x");
        counts("typed after a fault:", calls, 1, 2, 2, BAD, BAD, BAD);
        calls.load();
        counts("fault 2:", calls, 2, 2, 0, BAD, BAD, BAD);
        calls.write("x^9=0");
        calls.load();
        counts("fault 3:", calls, 3, 1, 0, BAD, BAD, BAD);
        calls.load();
        counts("empty:", calls, 2, 0, 0, BAD, BAD, BAD);
        calls.write("0<0");
        calls.load();
        counts("holds nowhere:", calls, 0, NONE, 0, 1, 0, 0);
        calls.write("x<0|x=0|x>0");
        calls.load();
        counts("holds everywhere:", calls, 0, NONE, 0, 3, 1, 3);
    }

    private static void countOfOther() {
        for (Calls calls : new Calls[] {new Calls(), Calls.read("x=1")}) {
            for (int what : new int[] {-1, -2, 6, 7, 100, 65536, Calls.LEAST_INT, Calls.GREATEST_INT}) {
                due("count(" + what + ")", calls.count(what), BAD);
            }
        }
    }

    private static void atomOfEachPower() {
        Calls calls = Calls.read("1-2*x+3*x^2-4*x^3+5*x^4-6*x^5+7*x^6-8*x^7+9*x^8<0|x>3|10^9*x^8=10^9");
        for (int k = 0; k <= 8; k++) {
            due("factor " + k, calls.atom(0, k), k % 2 == 0 ? k + 1 : -k - 1);
        }
        due("degree 8", calls.atom(0, 9), 8);
        due("degree 1", calls.atom(1, 9), 1);
        due("rel <", calls.atom(0, 10), 1);
        due("rel >", calls.atom(1, 10), 2);
        due("rel =", calls.atom(2, 10), 0);
        due("no real root", calls.atom(0, 11), 0);
        due("8 others", calls.atom(0, 12), 8);
        due("one real root", calls.atom(1, 11), 1);
        due("no other", calls.atom(1, 12), 0);
        due("the greatest factor", calls.atom(2, 8), 1000000000);
        due("the least factor", calls.atom(2, 0), -1000000000);
        due("two real roots", calls.atom(2, 11), 2);
        due("6 others", calls.atom(2, 12), 6);
    }

    private static void atomThatIsZero() {
        for (String text : new String[] {"0=0", "x=x", "x^8<x^8", "(x+1)^2>x^2+2*x+1", "0*x=0"}) {
            Calls calls = Calls.read(text);
            for (int k = 0; k <= 12; k++) {
                long want = k == 9 ? NONE : k == 10 ? "=<>".indexOf(text.replaceAll("[^=<>]", "")) : 0;
                due("atom(0, " + k + ") of " + text, calls.atom(0, k), want);
            }
            due("atom(0, 13) of " + text, calls.atom(0, 13), Calls.BAD_ATOM);
            due("atom(0, -1) of " + text, calls.atom(0, -1), Calls.BAD_ATOM);
        }
        Calls constant = Calls.read("7>0");
        due("degree of a number", constant.atom(0, 9), 0);
        due("no roots", constant.atom(0, 11), 0);
        due("no others", constant.atom(0, 12), 0);
    }

    private static void rootsOf(String text, int real, int others) {
        Calls calls = Calls.read(text);
        due("different real roots of " + text, calls.atom(0, 11), real);
        due("different others of " + text, calls.atom(0, 12), others);
    }

    private static void atomRootsThatAreNotReal() {
        rootsOf("x^8=0", 1, 0);
        rootsOf("(x-1)^4*(x+1)^4=0", 2, 0);
        rootsOf("(x^2+1)^4=0", 0, 2);
        rootsOf("(x^2+1)^2*(x^2+2)*(x-1)^2=0", 1, 4);
        rootsOf("x^8=1", 2, 6);
        rootsOf("x^8+1=0", 0, 8);
        rootsOf("x^7=1", 1, 6);
        rootsOf("((x^2-9)^2-40)^2=99", 8, 0);
        rootsOf("((x^2-9)^2-40)^2=1600", 6, 0);
        rootsOf("((x^2-9)^2-40)^2=0", 4, 0);
    }

    private static void atomOfNone() {
        Calls calls = Calls.read("x=1|x=2");
        for (int k : new int[] {0, 1, 8, 9, 10, 11, 12}) {
            due("atom(1, " + k + ")", calls.atom(1, k) == Calls.BAD_ATOM ? 1 : 0, 0);
            due("atom(2, " + k + ")", calls.atom(2, k), Calls.BAD_ATOM);
            due("atom(-1, " + k + ")", calls.atom(-1, k), Calls.BAD_ATOM);
            due("atom(10, " + k + ")", calls.atom(10, k), Calls.BAD_ATOM);
        }
        for (int k : new int[] {-1, 13, 14, 100, Calls.LEAST_INT, Calls.GREATEST_INT}) {
            due("atom(0, " + k + ")", calls.atom(0, k), Calls.BAD_ATOM);
        }
        calls.write("x=3");
        calls.load();
        due("an atom of the text before", calls.atom(1, 0), Calls.BAD_ATOM);
    }

    private static void judged(String text, long... want) {
        Calls calls = Calls.read(text);
        for (int what = 0; what <= 8; what++) {
            due("judge(" + what + ") of " + text, calls.judge(what), want[what]);
        }
        due("judge(-1) of " + text, calls.judge(-1), BAD);
        due("judge(9) of " + text, calls.judge(9), BAD);
    }

    private static void judgeNowhere() {
        judged("x<x", 0, 0, NONE, NONE, 0, 0, 0, 0, 0);
        judged("x^2<0", 0, 0, NONE, NONE, 0, 0, 0, 0, 0);
        judged("x=0&x=1", 0, 0, NONE, NONE, 0, 0, 0, 0, 0);
        judged("x^2+1=0", 0, 0, NONE, NONE, 0, 0, 0, 0, 0);
        judged("x<0&x>0", 0, 0, NONE, NONE, 0, 0, 0, 0, 0);
    }

    private static void judgeEverywhere() {
        judged("x=x", 1, 1, 0, 0, 1, 0, 0, 1, 1);
        judged("x<1|x=1|x>1", 1, 1, 0, 2, 1, 0, 0, 1, 1);
        judged("~x^2<0", 1, 1, 0, 2, 1, 0, 0, 1, 1);
        judged("x<2|x>1", 1, 1, 0, 4, 1, 0, 0, 1, 1);
    }

    private static void judgeLeastAndGreatest() {
        judged("x<1", 1, 0, 0, 0, 1, 0, 0, 1, 0);
        judged("~x>1", 1, 0, 0, 1, 1, 0, 1, 1, 0);
        judged("x>1", 1, 0, 2, 2, 1, 0, 0, 0, 1);
        judged("~x<1", 1, 0, 1, 2, 1, 1, 0, 0, 1);
        judged("x=1", 1, 0, 1, 1, 1, 1, 1, 0, 0);
        judged("~x=1", 1, 0, 0, 2, 2, 0, 0, 1, 1);
        judged("x>1&x<2", 1, 0, 2, 2, 1, 0, 0, 0, 0);
        judged("~x<1&x<2", 1, 0, 1, 2, 1, 1, 0, 0, 0);
        judged("x>1&~x>2", 1, 0, 2, 3, 1, 0, 1, 0, 0);
        judged("~x<1&~x>2", 1, 0, 1, 3, 1, 1, 1, 0, 0);
        judged("x>1&x=2", 1, 0, 3, 3, 1, 1, 1, 0, 0);
        judged("x>1&x>2", 1, 0, 4, 4, 1, 0, 0, 0, 1);
        judged("x=1|x>2", 1, 0, 1, 4, 2, 1, 0, 0, 1);
        judged("x<1|x=2", 1, 0, 0, 3, 2, 0, 1, 1, 0);
    }

    private static void judgePieces() {
        judged("x=1|x=2|x=3", 1, 0, 1, 5, 3, 1, 1, 0, 0);
        judged("~[x=1|x=2|x=3]", 1, 0, 0, 6, 4, 0, 0, 1, 1);
        judged("x<1|x>2&x<3|x=4", 1, 0, 0, 7, 3, 0, 1, 1, 0);
        judged("x<1|x=1|x=3&x<5", 1, 0, 0, 3, 2, 0, 1, 1, 0);
        judged("x>1&x<2|x=2|x>2&x<3", 1, 0, 2, 4, 1, 0, 0, 0, 0);
    }

    private static void judgeOfOther() {
        for (String text : new String[] {"x=1", "x<x", "x=x"}) {
            Calls calls = Calls.read(text);
            for (int what : new int[] {-1, -2, 9, 10, 65536, Calls.LEAST_INT, Calls.GREATEST_INT}) {
                due("judge(" + what + ")", calls.judge(what), BAD);
            }
        }
        Calls calls = new Calls();
        for (int what = -1; what <= 9; what++) {
            due("judge(" + what + "), nothing read", calls.judge(what), BAD);
        }
    }

    private static void holdsAtTheEnds() {
        Calls calls = Calls.read("x=1|x>2");
        long[] want = {BAD, 0, 1, 0, 0, 1, BAD, BAD};
        for (int cell = -1; cell <= 6; cell++) {
            due("holds(" + cell + ")", calls.holds(cell), want[cell + 1]);
        }
        calls.write("x>0");
        calls.load();
        due("the last cell", calls.holds(2), 1);
        due("a cell of the text before", calls.holds(3), BAD);
        due("a cell of the text before", calls.holds(4), BAD);
    }

    private static void signAtTheEnds() {
        Calls calls = Calls.read("x>1|x-x=0|0-3<0");
        long[][] want = {{-1, 0, -1}, {0, 0, -1}, {1, 0, -1}};
        for (int cell = -1; cell <= 3; cell++) {
            for (int i = -1; i <= 3; i++) {
                boolean none = cell < 0 || cell > 2 || i < 0 || i > 2;
                due("sign(" + cell + ", " + i + ")", calls.sign(cell, i), none ? Calls.BAD_SIGN : want[cell][i]);
            }
        }
        Calls even = Calls.read("(x-1)^2>0|-(x-1)^2>0|(x-1)^3<0");
        long[][] signs = {{1, -1, -1}, {0, 0, 0}, {1, -1, 1}};
        for (int cell = 0; cell <= 2; cell++) {
            for (int i = 0; i <= 2; i++) {
                due("sign(" + cell + ", " + i + ")", even.sign(cell, i), signs[cell][i]);
            }
        }
    }

    private static void root(String text, int k, int n, long want) {
        due("root(" + k + ", " + n + ") of " + text, Calls.read(text).root(k, n), want);
    }

    private static void rootBelowZero() {
        root("x^2=2", 0, 0, -2);
        root("x^2=2", 0, 8, -141421357);
        root("x^2=2", 1, 0, 1);
        root("x^2=2", 1, 8, 141421356);
        root("2*x+1=0", 0, 0, -1);
        root("2*x+1=0", 0, 1, -5);
        root("2*x+1=0", 0, 8, -50000000);
        root("3*x+1=0", 0, 0, -1);
        root("3*x+1=0", 0, 8, -33333334);
        root("3*x=1", 0, 0, 0);
        root("3*x=1", 0, 8, 33333333);
        root("x+7=0", 0, 0, -7);
        root("x+7=0", 0, 8, -700000000);
        root("x=0", 0, 0, 0);
        root("x=0", 0, 8, 0);
        root("10^9*x+1=0", 0, 0, -1);
        root("10^9*x+1=0", 0, 8, -1);
        root("10^9*x=1", 0, 8, 0);
        root("10^8*x+1=0", 0, 8, -1);
        root("10^8*x+1=0", 0, 7, -1);
        root("10^8*x=1", 0, 8, 1);
        root("10^9*x^2=2", 0, 0, -1);
        root("10^9*x^2=2", 0, 4, -1);
        root("10^9*x^2=2", 0, 5, -5);
        root("10^9*x^2=2", 1, 4, 0);
        root("10^9*x^2=2", 1, 5, 4);
    }

    private static void rootScaled() {
        Calls calls = Calls.read("x^2=2");
        long[] up = {1, 14, 141, 1414, 14142, 141421, 1414213, 14142135, 141421356};
        for (int n = 0; n <= 8; n++) {
            due("root(1, " + n + ")", calls.root(1, n), up[n]);
            due("root(0, " + n + ")", calls.root(0, n), -up[n] - 1);
        }
        due("root(1, -1)", calls.root(1, -1), Calls.FAR);
        due("root(1, 9)", calls.root(1, 9), Calls.FAR);
        root("x=10^9", 0, 8, 100000000000000000L);
        root("x+10^9=0", 0, 8, -100000000000000000L);
    }

    private static void rootCloseToWholeNumbers() {
        root("x^2-10^9*x+1=0", 1, 0, 999999999);
        root("x^2-10^9*x+1=0", 1, 8, 99999999999999999L);
        root("x^2-10^9*x-1=0", 1, 0, 1000000000);
        root("x^2-10^9*x-1=0", 1, 8, 100000000000000000L);
        root("x^2+10^9*x+1=0", 0, 0, -1000000000);
        root("x^2+10^9*x+1=0", 0, 8, -100000000000000000L);
        root("x^2+10^9*x-1=0", 0, 0, -1000000001);
        root("x^2+10^9*x-1=0", 0, 8, -100000000000000001L);
        root("x^2-10^9*x+1=0", 0, 8, 0);
        root("x^2+10^9*x+1=0", 1, 8, -1);
        root("10^9*x^2=10^9-1", 1, 0, 0);
        root("10^9*x^2=10^9-1", 1, 8, 99999999);
        root("10^9*x^2=10^9-1", 0, 0, -1);
        root("(10^9-1)*x^2=10^9", 0, 0, -2);
        root("(10^9-1)*x^2=10^9", 0, 8, -100000001);
        root("(10^9-1)*x^2=10^9", 1, 8, 100000000);
    }

    /** Roots nearer than 2 to the power -32 to a mark of 8 digits behind the point, on either side of it. */
    private static void rootCloseToMarks() {
        long[][] roots = {{53, 3162277576368L}, {161, 3162277405605L}, {233, 3162277291763L}, {269, 3162277234842L},
            {384, 3162277053011L}, {420, 3162276996090L}, {82, 3162277530514L}, {190, 3162277359751L}, {262, 3162277245909L},
            {305, 3162277177920L}, {341, 3162277120999L}, {535, 3162276814258L}};
        for (long[] row : roots) {
            root("x^2=10^9-" + row[0], 1, 8, row[1]);
            root("x^2=10^9-" + row[0], 0, 8, -row[1] - 1);
            root("x^2=10^9-" + row[0], 1, 7, row[1] / 10);
        }
    }

    private static final String LOWER = "x^7+x^6+x^5+x^4+x^3+x^2+x";

    /** The first root lies less than 10 to the power -11 below 2, the second at it, the third as little above it. */
    private static void rootsAround2() {
        String below = "(10^9-3906*1000-250)*x^8=10^9*(" + LOWER + ")+10^9-1";
        String at = "(10^9-3906*1000-250)*x^8=10^9*(" + LOWER + "+1)";
        String above = "(10^9-3906*1000-251)*x^8=(10^9-1)*(" + LOWER + ")+10^9";
        for (String text : new String[] {below + "|" + at + "|" + above, above + "|" + at + "|" + below}) {
            Calls calls = Calls.read(text);
            int cell = calls.cellOf(2, 1);
            int k = cell / 2;
            due("2 is a root", cell % 2, 1);
            due("exact", calls.exact(k, 0), 2);
            due("just below it is none", calls.exact(k - 1, 0), Calls.FAR_NONE);
            due("just above it is none", calls.exact(k + 1, 0), Calls.FAR_NONE);
            long[][] digits = {{1, 19, 1999999, 199999999}, {2, 20, 2000000, 200000000}, {2, 20, 2000000, 200000000}};
            int[] places = {0, 1, 6, 8};
            for (int i = 0; i < 4; i++) {
                for (int way = -1; way <= 1; way++) {
                    due("root(" + (k + way) + ", " + places[i] + ")", calls.root(k + way, places[i]), digits[way + 1][i]);
                }
            }
            due("just below both", calls.cellOf(999999999, 500000000), cell - 3);
            due("just above both", calls.cellOf(1000000000, 499999999), cell + 3);
            due("between the first two", calls.simple(cell - 1, 1), Calls.FAR_GREAT);
            due("between the last two", calls.simple(cell + 1, 1), Calls.FAR_GREAT);
            due("the same below 0", Calls.read(text.replace("x", "(-x)")).cellOf(-2, 1) % 2, 1);
        }
        Calls mirrored = Calls.read((below + "|" + at + "|" + above).replace("x", "(-x)"));
        int k = mirrored.cellOf(-2, 1) / 2;
        due("just below -2", mirrored.root(k - 1, 8), -200000001);
        due("-2", mirrored.root(k, 8), -200000000);
        due("just above -2", mirrored.root(k + 1, 8), -200000000);
    }

    private static void rootOfNone() {
        Calls calls = Calls.read("x=1|x^2=2");
        for (int k : new int[] {-1, 3, 4, 80, Calls.LEAST_INT, Calls.GREATEST_INT}) {
            due("root(" + k + ", 0)", calls.root(k, 0), Calls.FAR);
            due("root(" + k + ", 8)", calls.root(k, 8), Calls.FAR);
            due("root(" + k + ", 9)", calls.root(k, 9), Calls.FAR);
        }
        for (int n : new int[] {-1, 9, 10, 18, 32, Calls.LEAST_INT, Calls.GREATEST_INT}) {
            due("root(0, " + n + ")", calls.root(0, n), Calls.FAR);
            due("root(1, " + n + ")", calls.root(1, n), Calls.FAR);
        }
        calls.write("x=5");
        calls.load();
        due("the only root", calls.root(0, 0), 5);
        due("a root of the text before", calls.root(1, 0), Calls.FAR);
    }

    private static void timesOfZero() {
        Calls calls = Calls.read("x^8=0|x-x=0|5=0|x=1|x^7*(x-1)=0");
        long[][] want = {{8, NONE, 0, 0, 7}, {0, NONE, 0, 1, 1}};
        for (int k = 0; k <= 1; k++) {
            for (int i = 0; i <= 4; i++) {
                due("times(" + k + ", " + i + ")", calls.times(k, i), want[k][i]);
            }
        }
    }

    private static void timesOfNone() {
        Calls calls = Calls.read("x=1|x-x=0");
        for (int i = 0; i <= 1; i++) {
            due("times(-1, " + i + ")", calls.times(-1, i), BAD);
            due("times(1, " + i + ")", calls.times(1, i), BAD);
        }
        due("times(0, -1)", calls.times(0, -1), BAD);
        due("times(0, 2)", calls.times(0, 2), BAD);
        due("times(0, 10)", calls.times(0, 10), BAD);
        due("a polynomial that is 0, but no root", Calls.read("x=x").times(0, 0), BAD);
    }

    private static void exact(String text, int k, long above, long below) {
        Calls calls = Calls.read(text);
        due("exact(" + k + ", 0) of " + text, calls.exact(k, 0), above);
        due("exact(" + k + ", 1) of " + text, calls.exact(k, 1), below);
    }

    private static void exactInLeastTerms() {
        exact("4*x=6", 0, 3, 2);
        exact("4*x+6=0", 0, -3, 2);
        exact("-4*x=6", 0, -3, 2);
        exact("-4*x+6=0", 0, 3, 2);
        exact("x=0", 0, 0, 1);
        exact("-10^9*x=0", 0, 0, 1);
        exact("x+7=0", 0, -7, 1);
        exact("10^9*x=10^9", 0, 1, 1);
        exact("10^9*x=1", 0, 1, 1000000000);
        exact("10^9*x+1=0", 0, -1, 1000000000);
        exact("10^9*x=10^9-1", 0, 999999999, 1000000000);
        exact("x=10^9", 0, 1000000000, 1);
        exact("x+10^9=0", 0, -1000000000, 1);
        exact("(10^9-1)*x=10^9", 0, 1000000000, 999999999);
        exact("36*x^2=4", 0, -1, 3);
        exact("36*x^2=4", 1, 1, 3);
        exact("(6*x-4)^2*(x^2-2)=0", 1, 2, 3);
        exact("(6*x-4)^2*(x^2-2)=0", 2, Calls.FAR_NONE, Calls.FAR_NONE);
        exact("x^2=2", 0, Calls.FAR_NONE, Calls.FAR_NONE);
        exact("x^3=2", 0, Calls.FAR_NONE, Calls.FAR_NONE);
        exact("x^2-10^9*x+1=0", 1, Calls.FAR_NONE, Calls.FAR_NONE);
        exact("x^8=256", 1, 2, 1);
        exact("3*x^2=10^9*x", 1, 1000000000, 3);
        exact("3*x^2+10^9*x=0", 0, -1000000000, 3);
        exact("(10^9-1)*x^2=x", 1, 1, 999999999);
    }

    /** The root lies less than 10 to the power -11 from 10 / 3. */
    private static void fractionsNearARootAreNotIt() {
        for (int way = -1; way <= 1; way += 2) {
            Calls calls = Calls.read("(3*x-10)*x^7*10^7" + (way < 0 ? "+" : "-") + "1=0");
            int k = calls.count(4) - 1;
            due("root(" + k + ", 8)", calls.root(k, 8), 333333333);
            due("exact(" + k + ", 0)", calls.exact(k, 0), Calls.FAR_NONE);
            due("exact(" + k + ", 1)", calls.exact(k, 1), Calls.FAR_NONE);
            due("simple", calls.simple(2 * k + 1, 0), Calls.FAR_NONE);
            due("cellOf(10, 3)", calls.cellOf(10, 3), way < 0 ? 2 * k + 2 : 2 * k);
            due("signAt(0, 10, 3)", calls.signAt(0, 10, 3), -way);
        }
    }

    private static void exactOfNone() {
        Calls calls = Calls.read("x=1|x^2=2");
        for (int k = 0; k <= 2; k++) {
            due("exact(" + k + ", -1)", calls.exact(k, -1), Calls.FAR);
            due("exact(" + k + ", 2)", calls.exact(k, 2), Calls.FAR);
        }
        for (int what = -1; what <= 2; what++) {
            due("exact(-1, " + what + ")", calls.exact(-1, what), Calls.FAR);
            due("exact(3, " + what + ")", calls.exact(3, what), Calls.FAR);
        }
    }

    private static void common() {
        due("a root that counts 8 times", Calls.read("x^8=0").common(0), 1);
        due("8 roots, none but one real", Calls.read("(x^7-2)*(x-1)=0").common(0), 8);
        due("polynomials that are 0 are not asked", Calls.read("x=x|x^2=2|0=0").common(0), 2);
        Calls calls = Calls.read("(x-1)^2*(x^2+1)=0|(x-1)*(x^2+1)^3=0|(x-1)^3*(x-2)=0|x=2");
        due("all but the last are 0 at 1", calls.common(0), 1);
        due("the last two are 0 at 2", calls.common(1), 1);
        due("there is no root -1", calls.common(-1), BAD);
        due("there is no root 2", calls.common(2), BAD);
        Calls two = Calls.read("(x-1)^2*(x^2+1)=0|(x-1)*(x^2+1)^3=0");
        due("roots that are not real count too, once", two.common(0), 3);
        due("there is no root 1", two.common(1), BAD);
    }

    /** The second polynomial's value at 46341 is a product of primes just under 2 to the power 31, not 0. */
    private static void commonOnlyModuloPrimes() {
        for (String second : new String[] {"x^2-4634", "46340*x^3+37055*x^2+465*x+8803",
            "46340*x^5+32361*x^4+1405*x^3+36699*x^2+40766*x+14890",
            "46340*x^7+27659*x^6+2824*x^5+12638*x^4+11154*x^3+25939*x^2+29474*x+8471"}) {
            Calls calls = Calls.read("x=46341|" + second + "=0");
            int k = calls.cellOf(46341, 1) / 2;
            due("exact(" + k + ", 0)", calls.exact(k, 0), 46341);
            due("times(" + k + ", 0)", calls.times(k, 0), 1);
            due("times(" + k + ", 1)", calls.times(k, 1), 0);
            due("common(" + k + ")", calls.common(k), 1);
            due("degree of the second", calls.atom(1, 11) + calls.atom(1, 12), calls.atom(1, 9));
        }
    }

    private static void simpleOf2000And2001() {
        simple("2000*x=1", 1, 1, 2000);
        simple("2001*x=1", 1, Calls.FAR_GREAT, Calls.FAR_GREAT);
        simple("2000*x+1=0", 1, -1, 2000);
        simple("2001*x+1=0", 1, Calls.FAR_GREAT, Calls.FAR_GREAT);
        simple("4000*x=2", 1, 1, 2000);
        simple("2001*x=667", 1, 1, 3);
        simple("2000*x=4001", 1, 4001, 2000);
        simple("2001*x=4003", 1, Calls.FAR_GREAT, Calls.FAR_GREAT);
        simple("1999*x=1|2001*x=1", 2, 1, 2000);
        simple("2000*x=1|2002*x=1", 2, Calls.FAR_GREAT, Calls.FAR_GREAT);
        simple("1999*x+1=0|2001*x+1=0", 2, -1, 2000);
        simple("2000*x+1=0|2002*x+1=0", 2, Calls.FAR_GREAT, Calls.FAR_GREAT);
        simple("1999*(x-7)=1|2001*(x-7)=1", 2, 14001, 2000);
        simple("1999*(x+7)=1|2001*(x+7)=1", 2, -13999, 2000);
        simple("2000*(x+7)=1|2002*(x+7)=1", 2, Calls.FAR_GREAT, Calls.FAR_GREAT);
        simple("2000*x=1999|2002*x=2001", 2, Calls.FAR_GREAT, Calls.FAR_GREAT);
        simple("1999*x=1998|2001*x=2000", 2, 1999, 2000);
        simple("1000*x=1|1001*x=1", 2, Calls.FAR_GREAT, Calls.FAR_GREAT);
        simple("999*x=1|1000*x=1", 2, 2, 1999);
        simple("x=0|1999*x=1", 2, 1, 2000);
        simple("x=0|2000*x=1", 2, Calls.FAR_GREAT, Calls.FAR_GREAT);
        simple("x=1|2000*x=1999", 2, Calls.FAR_GREAT, Calls.FAR_GREAT);
        simple("x=1|1999*x=1998", 2, 1999, 2000);
        simple("10^9*x=1|10^9*x=2", 2, Calls.FAR_GREAT, Calls.FAR_GREAT);
    }

    /** A cell between roots of x^2-slope*x=c and of the same with a little more; a fraction all but meets one of them. */
    private static void simpleFarFromZero(int slope, int constant, int more, long above, long below) {
        String first = "x^2-(" + slope / 1000 + "*1000+" + slope % 1000 + ")*x=" + constant / 1000 + "*1000+";
        simple(first + constant % 1000 + "|" + first + (constant % 1000 + more), 6, above, below);
    }

    private static void simpleAllButMeetsARoot() {
        simpleFarFromZero(30068701, 468020108, 2, Calls.FAR_GREAT, Calls.FAR_GREAT);
        simpleFarFromZero(19213913, 11336306, 1, 37678484550L, 1961);
        simpleFarFromZero(13854600, 348125877, 3, 26171386865L, 1889);
        simpleFarFromZero(26555584, 76108855, 2, 46578499363L, 1754);
        simpleFarFromZero(26069976, 827398415, 1, 44006173061L, 1688);
        simpleFarFromZero(16899834, 26433567, 1, 14888755132L, 881);
        simpleFarFromZero(25277434, 363891020, 3, 12259562472L, 485);
        simpleFarFromZero(15930138, 457411648, 1, 9287287194L, 583);
    }

    private static void simpleOfNone() {
        Calls calls = Calls.read("x^2=2|2001*x=1");
        for (int cell = 0; cell <= 6; cell++) {
            due("simple(" + cell + ", -1)", calls.simple(cell, -1), Calls.FAR_BAD);
            due("simple(" + cell + ", 2)", calls.simple(cell, 2), Calls.FAR_BAD);
        }
        for (int what = -1; what <= 2; what++) {
            due("simple(-1, " + what + ")", calls.simple(-1, what), Calls.FAR_BAD);
            due("simple(7, " + what + ")", calls.simple(7, what), Calls.FAR_BAD);
        }
        for (int what = 0; what <= 1; what++) {
            due("no fraction", calls.simple(1, what), Calls.FAR_NONE);
            due("denominator 2001", calls.simple(3, what), Calls.FAR_GREAT);
            due("no fraction", calls.simple(5, what), Calls.FAR_NONE);
        }
    }

    private static final int[][] TAKEN = {{0, 1}, {0, 1000000000}, {1, 1}, {1000000000, 1}, {-1000000000, 1},
        {1000000000, 1000000000}, {-1000000000, 1000000000}, {1, 1000000000}, {-1, 1000000000}};
    private static final int[][] REFUSED = {{0, 0}, {1, 0}, {1, -1}, {0, -1000000000}, {1, 1000000001}, {1000000001, 1},
        {-1000000001, 1}, {1000000001, 1000000001}, {Integer.MIN_VALUE, 1}, {Integer.MAX_VALUE, 1},
        {1, Integer.MIN_VALUE}, {1, Integer.MAX_VALUE}, {Integer.MIN_VALUE, Integer.MIN_VALUE},
        {Integer.MAX_VALUE, Integer.MAX_VALUE}, {Integer.MIN_VALUE, -1}, {1000000000, 0}, {-1000000000, 1000000001}};

    private static void cellOfEdges() {
        Calls calls = Calls.read("x=0|x=1|x+1=0|x=10^9|x+10^9=0");
        int[] cells = {5, 5, 7, 9, 1, 7, 3, 6, 4};
        for (int i = 0; i < TAKEN.length; i++) {
            due("cellOf(" + TAKEN[i][0] + ", " + TAKEN[i][1] + ")", calls.cellOf(TAKEN[i][0], TAKEN[i][1]), cells[i]);
        }
        for (int[] pair : REFUSED) {
            due("cellOf(" + pair[0] + ", " + pair[1] + ")", calls.cellOf(pair[0], pair[1]), BAD);
        }
        Calls none = new Calls();
        for (int[] pair : TAKEN) {
            due("cellOf, nothing read", none.cellOf(pair[0], pair[1]), BAD);
        }
        Calls near = Calls.read("10^9*x=1|(10^9-1)*x=1|10^9*x^2=2");
        due("at a root", near.cellOf(1, 1000000000), 3);
        due("at the next root", near.cellOf(1, 999999999), 5);
        due("not in least terms", near.cellOf(2, 999999998 + 2), 6);
        due("just below", near.cellOf(44721, 1000000000), 6);
        due("just above", near.cellOf(44722, 1000000000), 8);
        due("just above, below 0", near.cellOf(-44721, 1000000000), 2);
        due("just below, below 0", near.cellOf(-44722, 1000000000), 0);
        due("half of two", Calls.read("2*x=1").cellOf(500000000, 1000000000), 1);
    }

    private static void signAtEdges() {
        Calls calls = Calls.read("x-1<0|x-x=0|0-5<0|10^9*x^8-1>0|x^8-10^9*x=0");
        int[][] signs = {{-1, -1, 0, 1, -1, 0, -1, -1, -1}, {0, 0, 0, 0, 0, 0, 0, 0, 0},
            {-1, -1, -1, -1, -1, -1, -1, -1, -1}, {-1, -1, 1, 1, 1, 1, 1, -1, -1}, {0, 0, -1, 1, 1, -1, 1, -1, 1}};
        for (int atom = 0; atom < 5; atom++) {
            for (int i = 0; i < TAKEN.length; i++) {
                due("signAt(" + atom + ", " + TAKEN[i][0] + ", " + TAKEN[i][1] + ")",
                    calls.signAt(atom, TAKEN[i][0], TAKEN[i][1]), signs[atom][i]);
            }
            for (int[] pair : REFUSED) {
                due("signAt(" + atom + ", " + pair[0] + ", " + pair[1] + ")", calls.signAt(atom, pair[0], pair[1]),
                    Calls.BAD_SIGN);
            }
        }
        for (int atom : new int[] {-1, 5, 10, Calls.LEAST_INT, Calls.GREATEST_INT}) {
            due("signAt(" + atom + ", 1, 1)", calls.signAt(atom, 1, 1), Calls.BAD_SIGN);
        }
        due("signAt, nothing read", new Calls().signAt(0, 1, 1), Calls.BAD_SIGN);
        Calls near = Calls.read("10^9*x^8<10^9-7|10^9*x^8<10^9-8");
        for (int above : new int[] {999999999, -999999999}) {
            due("just below the root", near.signAt(0, above, 1000000000), -1);
            due("just above the root", near.signAt(1, above, 1000000000), 1);
        }
    }

    private static void endsOfInt() {
        Calls calls = Calls.read("x^2=2|x>1");
        for (int end : ENDS) {
            due("type", calls.type(end), BAD);
            due("four", calls.four(end), BAD);
            due("count", calls.count(end), BAD);
            due("atom", calls.atom(end, 0), Calls.BAD_ATOM);
            due("atom", calls.atom(0, end), Calls.BAD_ATOM);
            due("judge", calls.judge(end), BAD);
            due("holds", calls.holds(end), BAD);
            due("sign", calls.sign(end, 0), Calls.BAD_SIGN);
            due("sign", calls.sign(0, end), Calls.BAD_SIGN);
            due("root", calls.root(end, 0), Calls.FAR);
            due("root", calls.root(0, end), Calls.FAR);
            due("times", calls.times(end, 0), BAD);
            due("times", calls.times(0, end), BAD);
            due("exact", calls.exact(end, 0), Calls.FAR);
            due("exact", calls.exact(0, end), Calls.FAR);
            due("common", calls.common(end), BAD);
            due("simple", calls.simple(end, 0), Calls.FAR_BAD);
            due("simple", calls.simple(0, end), Calls.FAR_BAD);
            due("cellOf", calls.cellOf(end, 1), BAD);
            due("cellOf", calls.cellOf(0, end), BAD);
            due("signAt", calls.signAt(end, 0, 1), Calls.BAD_SIGN);
            due("signAt", calls.signAt(0, end, 1), Calls.BAD_SIGN);
            due("signAt", calls.signAt(0, 0, end), Calls.BAD_SIGN);
        }
    }

    private static void refuse(Calls calls) {
        for (int wrong : new int[] {-1, 13, Calls.LEAST_INT, Calls.GREATEST_INT}) {
            calls.type(wrong);
            calls.four(wrong);
            calls.count(wrong);
            calls.atom(wrong, 0);
            calls.atom(0, wrong);
            calls.judge(wrong);
            calls.holds(wrong);
            calls.sign(wrong, 0);
            calls.sign(0, wrong);
            calls.root(wrong, 0);
            calls.root(0, wrong);
            calls.times(wrong, 0);
            calls.times(0, wrong);
            calls.exact(wrong, 0);
            calls.exact(0, wrong);
            calls.common(wrong);
            calls.simple(wrong, 0);
            calls.simple(0, wrong);
            calls.cellOf(Calls.LEAST_INT, wrong);
            calls.cellOf(0, Math.min(wrong, -wrong));
            calls.signAt(wrong, 0, 1);
            calls.signAt(0, 0, Math.min(wrong, -wrong));
        }
    }

    private static void refusedCallsChangeNothing() {
        for (String text : new String[] {"x^2=2|2*x>3|x-x=0", "x^2+1<0", "x^9=0", ""}) {
            Calls plain = Calls.typed(text);
            plain.load();
            Calls refused = Calls.typed(text);
            refuse(refused);
            refused.load();
            refuse(refused);
            plain.write("x=");
            refused.write("x=");
            refuse(refused);
            List<Long> want = plain.shown();
            due("what is shown of '" + text + "'", refused.shown().equals(want) ? 1 : 0, 1);
            plain.type('7');
            refused.type('7');
            due("load()", refused.load(), plain.load());
            due("what is read then", refused.atom(0, 0), -7);
        }
    }
}
