/** Each promise of the document with ordinary inputs, the edges that it names, and wrong inputs. */
public final class PromisesTest {
    private static final int BAD = RootJudge.BAD;
    private static final int NONE = RootJudge.NONE;
    private static final long FAR = -9000000000000000000L;
    private static int wrong = 0;
    private static int asked = 0;

    public static void main(String[] args) {
        newObject();
        typing();
        fourAtOnce();
        faultsOfSigns();
        faultsOfTokens();
        faultsOfSize();
        faultsOfDepth();
        orderOfFaults();
        meaning();
        loading();
        counting();
        atoms();
        judging();
        holding();
        signs();
        roots();
        multiplicities();
        exactRoots();
        commonDivisors();
        simpleFractions();
        cells();
        signsAtFractions();
        manyCalls();
        System.out.println(asked + " answers compared, " + wrong + " wrong");
        System.exit(wrong == 0 ? 0 : 1);
    }

    private static void due(int promise, String what, long got, long want) {
        asked++;
        if (got != want) {
            wrong++;
            System.out.println("promise " + promise + ": " + what + " answered " + got + ", due is " + want);
        }
    }

    private static RootJudge typed(String text) {
        RootJudge judge = new RootJudge();
        typeAll(judge, text);
        return judge;
    }

    private static void typeAll(RootJudge judge, String text) {
        for (int i = 0; i < text.length(); i++) {
            judge.type(text.charAt(i));
        }
    }

    private static RootJudge read(String text) {
        RootJudge judge = typed(text);
        due(4, "load() of " + text, judge.load(), 0);
        return judge;
    }

    private static void newObject() {
        due(1, "BAD", RootJudge.BAD, -1);
        due(1, "NONE", RootJudge.NONE, -2);
        due(1, "GREAT", RootJudge.GREAT, -3);
        nothingRead(1, new RootJudge());
        RootJudge judge = new RootJudge();
        due(1, "count(0)", judge.count(0), 0);
        due(1, "count(1)", judge.count(1), NONE);
        due(1, "count(2)", judge.count(2), 0);
    }

    private static void nothingRead(int promise, RootJudge judge) {
        for (int what = 3; what <= 5; what++) {
            due(promise, "count(" + what + ")", judge.count(what), BAD);
        }
        for (int what = 0; what <= 8; what++) {
            due(promise, "judge(" + what + ")", judge.judge(what), BAD);
        }
        due(promise, "atom(0, 0)", judge.atom(0, 0), -2000000000);
        due(promise, "holds(0)", judge.holds(0), BAD);
        due(promise, "sign(0, 0)", judge.sign(0, 0), -2);
        due(promise, "root(0, 0)", judge.root(0, 0), FAR);
        due(promise, "times(0, 0)", judge.times(0, 0), BAD);
        due(promise, "exact(0, 0)", judge.exact(0, 0), FAR);
        due(promise, "common(0)", judge.common(0), BAD);
        due(promise, "simple(0, 0)", judge.simple(0, 0), FAR - 1);
        due(promise, "cellOf(0, 1)", judge.cellOf(0, 1), BAD);
        due(promise, "signAt(0, 0, 1)", judge.signAt(0, 0, 1), -2);
    }

    private static void typing() {
        RootJudge judge = new RootJudge();
        int[] bad = {31, 127, 0, -1, 128, 376, Integer.MIN_VALUE, Integer.MAX_VALUE, 'x' + 65536};
        for (int c : bad) {
            due(2, "type(" + c + ")", judge.type(c), BAD);
        }
        due(2, "type(32)", judge.type(32), 1);
        due(2, "type(126)", judge.type(126), 2);
        for (int i = 3; i <= 400; i++) {
            due(2, "type(x)", judge.type('x'), i);
        }
        due(2, "the 401st", judge.type('x'), BAD);
        due(2, "count(2)", judge.count(2), 400);
    }

    private static void fourAtOnce() {
        RootJudge judge = new RootJudge();
        due(3, "four(0)", judge.four(0), 0);
        due(3, "x=1 first", judge.four(0x783D3100), 3);
        due(3, "x in the middle", judge.four(0x007C0078), 5);
        due(3, "one low", judge.four(0x0000003D), 6);
        due(3, "a sign 127", judge.four(0x3030307F), BAD);
        due(3, "a sign 31", judge.four(0x301F3030), BAD);
        due(3, "a sign 128", judge.four(0x80303030), BAD);
        due(3, "a sign 255", judge.four(-1), BAD);
        due(3, "count(2)", judge.count(2), 6);
        due(3, "the last", judge.four(0x32000000), 7);
        due(3, "load()", judge.load(), 0);
        due(3, "atoms", judge.count(3), 2);
        due(3, "the second", judge.atom(1, 0), -2);
        RootJudge full = new RootJudge();
        for (int i = 1; i <= 99; i++) {
            due(3, "four blanks", full.four(0x20202020), 4 * i);
        }
        due(3, "two", full.four(0x20002000), 398);
        due(3, "no room for three", full.four(0x20202000), BAD);
        due(3, "no room for four", full.four(0x20202020), BAD);
        due(3, "count(2)", full.count(2), 398);
        due(3, "room for two", full.four(0x00202000), 400);
        due(3, "none at the end", full.four(0), 400);
        due(3, "one too many", full.four(0x20), BAD);
        due(3, "a bad one at the end", full.four(1), BAD);
    }

    private static void fault(String text, int kind, int place) {
        RootJudge judge = typed(text);
        due(4, "load() of " + text, judge.load(), kind);
        due(5, "count(0) of " + text, judge.count(0), kind);
        due(5, "count(1) of " + text, judge.count(1), kind == 0 ? NONE : place);
    }

    private static void fine(String text) {
        fault(text, 0, NONE);
    }

    private static void faultsOfSigns() {
        fault("y=1", 1, 0);
        fault("  y=1", 1, 2);
        fault("X=1", 1, 0);
        fault("x=1;", 1, 3);
        fault("x=1.5", 1, 3);
        fault("x/2=1", 1, 1);
        fault("{x=1}", 1, 0);
        fault("1234567=x", 1, 6);
        fault("x=0000001", 1, 8);
        fault("x^0000001=1", 1, 8);
        fine("000001=x");
        fine("x=999999");
        fault("x=999999 9", 2, 9);
    }

    private static void faultsOfTokens() {
        fault("", 2, 0);
        fault("   ", 2, 3);
        fault("x", 2, 1);
        fault("x=", 2, 2);
        fault("x=  ", 2, 4);
        fault("x=1|", 2, 4);
        fault("x=1&", 2, 4);
        fault("|x=1", 2, 0);
        fault("x=1 x=2", 2, 4);
        fault("~", 2, 1);
        fault("[", 2, 1);
        fault("[]", 2, 1);
        fault("[x=1", 2, 4);
        fault("[x=1)", 2, 4);
        fault("x=1]", 2, 3);
        fault("(x=1)", 2, 2);
        fault("([x=1])", 2, 1);
        fault("(x", 2, 2);
        fault("()=1", 2, 1);
        fault("x=1=2", 2, 3);
        fault("x=1<2", 2, 3);
        fault("x<=1", 2, 2);
        fault("x^=1", 2, 2);
        fault("x^x=1", 2, 2);
        fault("x^-1=1", 2, 2);
        fault("x^2^2=1", 2, 3);
        fault("x**2=1", 2, 2);
        fault("2x=1", 2, 1);
        fault("12 34=x", 2, 3);
        fault("x*-1=1", 2, 2);
        fault("--x=1", 2, 1);
        fault("+x=1", 2, 0);
        fault("x+=1", 2, 2);
        fault("x=~1", 2, 2);
        fault("x=1~", 2, 3);
        fault("x=[1]", 2, 2);
        fault("[x]=1", 2, 2);
        fault("x 1234567=0", 2, 2);
    }

    private static void faultsOfSize() {
        fault("x^9=0", 3, 1);
        fine("x^8=0");
        fault("x^4*x^5=1", 3, 3);
        fine("x^4*x^4=1");
        fault("(x-1)^9=0", 3, 5);
        fault("x*x*x*x*x*x*x*x*x=0", 3, 15);
        fault("999999*999999=x", 3, 6);
        fine("1000*1000*1000=x");
        fine("10^9=x");
        fault("10^10=x", 3, 2);
        fine("2^29=x");
        fault("2^30=x", 3, 1);
        fault("2^999999=x", 3, 1);
        fine("1^999999=x");
        fine("(0-1)^999999=x");
        fine("0^999999=x");
        fault("x^999999=0", 3, 1);
        fine("(x-x)^999999=0");
        fault("10^9+1=x", 3, 4);
        fault("-10^9-1=x", 3, 5);
        fine("10^9-10^9=x");
        fault("0-10^9-x-1=0", 3, 8);
        fault("10^9=0-1", 3, 4);
        fine("10^9=1");
        fault("1*x^8*x-x^9=0", 3, 5);
        fine("0*x^8*x=0");
        fault("(x^8+1)*(x+1)*0=1", 3, 7);
        fault("31623*x*31623=x", 3, 7);
        fault("x=1|x=2|x=3|x=4|x=5|x=6|x=7|x=8|x=9|x=10|x=11", 3, 42);
        fine("x=1|x=2|x=3|x=4|x=5|x=6|x=7|x=8|x=9|x=10");
        fault("(31623*x-1)^2=1", 3, 11);
        fine("(31622*x-1)^2=1");
    }

    private static void faultsOfDepth() {
        String open = "[[[[[[[[[[";
        String shut = "]]]]]]]]]]";
        fine(open + "x=1" + shut);
        fault("[" + open + "x=1" + shut + "]", 3, 10);
        fault(open + "x=1" + shut.substring(1), 2, 22);
        fine("((((((((((x))))))))))=1");
        fault("(((((((((((x)))))))))))=1", 3, 10);
        fine("((((((((((x))))))))))=((((((((((x))))))))))");
        fine(open + "((((((((((x))))))))))=1" + shut);
        fine("~~~~~~~~~~x=1");
        fault("~~~~~~~~~~~x=1", 3, 10);
        fault("~ ~~~~~~~~~ ~x=1", 3, 12);
        fine("~~~~~~~~~~x=1|~~~~~~~~~~x=2");
        fine("~~~~~~~~~~[~~~~~~~~~~x=1]");
        fine("[x=1]&[x=1]&[x=1]&[x=1]&[x=1]&[[x=1]&[x=1]]");
        fine("(x)*(x)*(x)*(x)+(x)+(x)+(x)+(x)+(x)+(x)+(x)=0");
    }

    private static void orderOfFaults() {
        fault("999999*999999$", 1, 13);
        fault("999999*999999 $", 1, 14);
        fault("999999*999999]", 3, 6);
        fault("999999*999999", 3, 6);
        fault("x^9$", 1, 3);
        fault("x^9", 3, 1);
        fault("x^9x", 3, 1);
        fault("x^4*(x^5)$", 1, 9);
        fault("x^4*(x^5))", 3, 3);
        fault("(999999*999999)$", 3, 7);
        fault("10^9+1$", 1, 6);
        fault("10^9=0-1$", 1, 8);
        fault("10^9=0-1]", 3, 4);
        fault("10^9+999999*999999=x", 3, 11);
        fault("x^5*x^9=0", 3, 5);
        fault("999999*9999999=x", 1, 13);
        fault("(((((((((((", 3, 10);
        fault("((((((((((($", 3, 10);
        fault("x=1|x=2|x=3|x=4|x=5|x=6|x=7|x=8|x=9|x=10|x=$", 3, 42);
        fault("x=1|x=2|x=3|x=4|x=5|x=6|x=7|x=8|x=9|x=10|x^9=0", 3, 42);
        fault("x=1|x=2|x=3|x=4|x=5|x=6|x=7|x=8|x=9|x=10|x", 2, 42);
    }

    private static void value(String sum, long... factors) {
        RootJudge judge = read(sum + "=0");
        for (int k = 0; k <= 8; k++) {
            due(6, "factor " + k + " of " + sum, judge.atom(0, k), k < factors.length ? factors[k] : 0);
        }
    }

    private static void meaning() {
        value("-x^2", 0, 0, -1);
        value("-2*x+3-x-4", -1, -3);
        value("-(x-1)^2", -1, 2, -1);
        value("2*x^3", 0, 0, 0, 2);
        value("(2*x)^3", 0, 0, 0, 8);
        value("x^0", 1);
        value("0^0", 1);
        value("(0-1)^3", -1);
        value("(0-1)^4", 1);
        value("(0-1)^999998", 1);
        value("0^5", 0);
        value("(x+1)^8", 1, 8, 28, 56, 70, 56, 28, 8, 1);
        value("  100 - ( -  x )  ", 100, 1);
        value("7-x*x*2-3", 4, 0, -2);
        value("31622*31622*x^8-10^9", -1000000000, 0, 0, 0, 0, 0, 0, 0, 999950884);
        RootJudge judge = read("x^2+3*x<5*x-7");
        due(6, "first less second, 0", judge.atom(0, 0), 7);
        due(6, "first less second, 1", judge.atom(0, 1), -2);
        due(6, "first less second, 2", judge.atom(0, 2), 1);
        due(7, "and before or", read("x<0|x>0&x<0").judge(2), 0);
        due(7, "and before or", read("x<0|x>0&x<0").count(5), 1);
        due(7, "brackets", read("[x<0|x>0]&x>0").count(5), 1);
        due(7, "not binds first", read("~x<0&x<1").count(5), 2);
        due(7, "not a bracket", read("~[x<0&x<1]").count(5), 4);
        due(7, "not not", read("~~x<0").judge(3), 0);
    }

    private static void loading() {
        RootJudge judge = read("x=1|x=2");
        due(4, "signs then", judge.count(2), 0);
        typeAll(judge, "x=");
        due(4, "the old one stays while a new one comes", judge.count(4), 2);
        due(4, "load()", judge.load(), 2);
        nothingRead(4, judge);
        due(4, "signs then", judge.count(2), 0);
        due(4, "an empty text", judge.load(), 2);
        due(4, "its place", judge.count(1), 0);
        typeAll(judge, "x^2=2");
        due(4, "load()", judge.load(), 0);
        due(4, "fault", judge.count(0), 0);
        due(4, "place", judge.count(1), NONE);
        due(4, "roots", judge.count(4), 2);
        RootJudge full = typed(" ".repeat(397) + "x=1");
        due(4, "400 signs", full.load(), 0);
        RootJudge late = typed(" ".repeat(398) + "x=");
        due(4, "400 signs, too early an end", late.load(), 2);
        due(4, "its place", late.count(1), 400);
    }

    private static void counting() {
        RootJudge judge = read("x^2<2&x>0");
        long[] want = {0, NONE, 0, 2, 3, 1};
        for (int what = 0; what <= 5; what++) {
            due(5, "count(" + what + ")", judge.count(what), want[what]);
        }
        due(5, "count(6)", judge.count(6), BAD);
        due(5, "count(-1)", judge.count(-1), BAD);
        due(5, "count(least)", judge.count(Integer.MIN_VALUE), BAD);
        due(5, "cells in which all hold", read("x=x").count(5), 1);
    }

    private static void atoms() {
        RootJudge judge = read("(x^2+1)^2*(x-1)^3>0|x-x=0|7<0|x^2+x<2");
        long[] first = {-1, 3, -5, 7, -7, 5, -3, 1, 0, 7, 2, 1, 2};
        long[] zero = {0, 0, 0, 0, 0, 0, 0, 0, 0, NONE, 0, 0, 0};
        long[] seven = {7, 0, 0, 0, 0, 0, 0, 0, 0, 0, 1, 0, 0};
        long[] last = {-2, 1, 1, 0, 0, 0, 0, 0, 0, 2, 1, 2, 0};
        for (int k = 0; k <= 12; k++) {
            due(6, "atom(0, " + k + ")", judge.atom(0, k), first[k]);
            due(6, "atom(1, " + k + ")", judge.atom(1, k), zero[k]);
            due(6, "atom(2, " + k + ")", judge.atom(2, k), seven[k]);
            due(6, "atom(3, " + k + ")", judge.atom(3, k), last[k]);
        }
        int[][] bad = {{4, 0}, {-1, 0}, {0, 13}, {0, -1}, {10, 0}, {Integer.MAX_VALUE, 9}, {0, Integer.MIN_VALUE}};
        for (int[] pair : bad) {
            due(6, "atom(" + pair[0] + ", " + pair[1] + ")", judge.atom(pair[0], pair[1]), -2000000000);
        }
    }

    private static void verdict(String text, long... want) {
        RootJudge judge = read(text);
        for (int what = 0; what < 9; what++) {
            due(7, "judge(" + what + ") of " + text, judge.judge(what), want[what]);
        }
        due(7, "judge(9)", judge.judge(9), BAD);
        due(7, "judge(-1)", judge.judge(-1), BAD);
    }

    private static void judging() {
        verdict("x=x", 1, 1, 0, 0, 1, 0, 0, 1, 1);
        verdict("x<x", 0, 0, NONE, NONE, 0, 0, 0, 0, 0);
        verdict("x^2>0-1", 1, 1, 0, 0, 1, 0, 0, 1, 1);
        verdict("x^2<2", 1, 0, 2, 2, 1, 0, 0, 0, 0);
        verdict("~x^2>2", 1, 0, 1, 3, 1, 1, 1, 0, 0);
        verdict("x^2=2", 1, 0, 1, 3, 2, 1, 1, 0, 0);
        verdict("~x^2=2", 1, 0, 0, 4, 3, 0, 0, 1, 1);
        verdict("~x<0", 1, 0, 1, 2, 1, 1, 0, 0, 1);
        verdict("~x>0", 1, 0, 0, 1, 1, 0, 1, 1, 0);
        verdict("x<0|x=0|x>0", 1, 1, 0, 2, 1, 0, 0, 1, 1);
        verdict("x=0&x=1", 0, 0, NONE, NONE, 0, 0, 0, 0, 0);
    }

    private static void holding() {
        RootJudge judge = read("x^2=2|x>1");
        long[] want = {0, 1, 0, 0, 1, 1, 1};
        for (int cell = 0; cell < 7; cell++) {
            due(8, "holds(" + cell + ")", judge.holds(cell), want[cell]);
        }
        due(8, "holds(-1)", judge.holds(-1), BAD);
        due(8, "holds(7)", judge.holds(7), BAD);
        due(8, "holds(most)", judge.holds(Integer.MAX_VALUE), BAD);
    }

    private static void signs() {
        RootJudge judge = read("x*(x-1)^2>0|0=0|0-3<0|1>x");
        long[][] want = {{-1, 0, -1, 1}, {0, 0, -1, 1}, {1, 0, -1, 1}, {0, 0, -1, 0}, {1, 0, -1, -1}};
        for (int cell = 0; cell < 5; cell++) {
            for (int i = 0; i < 4; i++) {
                due(9, "sign(" + cell + ", " + i + ")", judge.sign(cell, i), want[cell][i]);
            }
        }
        int[][] bad = {{5, 0}, {-1, 0}, {0, 4}, {0, -1}, {Integer.MIN_VALUE, 0}, {0, Integer.MAX_VALUE}};
        for (int[] pair : bad) {
            due(9, "sign(" + pair[0] + ", " + pair[1] + ")", judge.sign(pair[0], pair[1]), -2);
        }
    }

    private static void roots() {
        RootJudge judge = read("x^2=2|3*x=0-7|x=0|8*x=1|x^2=10^9|x=10^9");
        long[][] want = {{-31623, -3162277660169L}, {-3, -233333334}, {-2, -141421357}, {0, 0}, {0, 12500000},
            {1, 141421356}, {31622, 3162277660168L}, {1000000000, 100000000000000000L}};
        due(10, "roots", judge.count(4), 8);
        for (int k = 0; k < 8; k++) {
            due(10, "root(" + k + ", 0)", judge.root(k, 0), want[k][0]);
            due(10, "root(" + k + ", 8)", judge.root(k, 8), want[k][1]);
        }
        due(10, "root(2, 3)", judge.root(2, 3), -1415);
        due(10, "root(5, 5)", judge.root(5, 5), 141421);
        due(10, "x + 10^9 = 0", read("x+10^9=0").root(0, 8), -100000000000000000L);
        due(10, "just below", read("10^9*x^2=10^9-1").root(1, 8), 99999999);
        due(10, "just below -1", read("10^9*x^2=10^9+0*1|(10^9-1)*x^2=10^9").root(0, 8), -100000001);
        int[][] bad = {{8, 0}, {-1, 0}, {0, 9}, {0, -1}, {Integer.MAX_VALUE, 0}, {0, Integer.MIN_VALUE}};
        for (int[] pair : bad) {
            due(10, "root(" + pair[0] + ", " + pair[1] + ")", judge.root(pair[0], pair[1]), FAR);
        }
        due(10, "no roots", read("x^2+1=0").root(0, 0), FAR);
        RootJudge near = read("x^8-10^9*x+1=0|x^7-10^9*x+1=0|10^9*x=1");
        due(10, "three near ones", near.times(1, 2), 1);
        due(10, "three near ones", near.times(2, 0), 1);
        due(10, "three near ones", near.times(3, 1), 1);
    }

    private static void multiplicities() {
        RootJudge judge = read("(x-1)^5*(x^2-2)^1=0|x=x|(x-1)*(x^2-2)^3>0|5=6");
        long[][] want = {{1, NONE, 3, 0}, {5, NONE, 1, 0}, {1, NONE, 3, 0}};
        for (int k = 0; k < 3; k++) {
            for (int i = 0; i < 4; i++) {
                due(11, "times(" + k + ", " + i + ")", judge.times(k, i), want[k][i]);
            }
        }
        due(11, "none of its roots", read("x=1|x=2").times(0, 1), 0);
        due(11, "eight times", read("x^8=0").times(0, 0), 8);
        int[][] bad = {{3, 0}, {3, 1}, {-1, 1}, {0, 4}, {0, -1}, {Integer.MAX_VALUE, 1}};
        for (int[] pair : bad) {
            due(11, "times(" + pair[0] + ", " + pair[1] + ")", judge.times(pair[0], pair[1]), BAD);
        }
    }

    private static void exactRoots() {
        RootJudge judge = read("6*x=0-4|x^2=2|x=0|(999999*x-1)*(x^2-3)=0|10^9*x=1|4*x=12|x=10^9");
        long[][] want = {{FAR - 2, FAR - 2}, {FAR - 2, FAR - 2}, {-2, 3}, {0, 1}, {1, 1000000000}, {1, 999999},
            {FAR - 2, FAR - 2}, {FAR - 2, FAR - 2}, {3, 1}, {1000000000, 1}};
        due(12, "roots", judge.count(4), 10);
        for (int k = 0; k < 10; k++) {
            due(12, "exact(" + k + ", 0)", judge.exact(k, 0), want[k][0]);
            due(12, "exact(" + k + ", 1)", judge.exact(k, 1), want[k][1]);
        }
        int[][] bad = {{10, 0}, {-1, 0}, {0, 2}, {0, -1}, {3, 2}, {Integer.MIN_VALUE, 1}};
        for (int[] pair : bad) {
            due(12, "exact(" + pair[0] + ", " + pair[1] + ")", judge.exact(pair[0], pair[1]), FAR);
        }
        RootJudge close = read("(30000*x-1)*(29999*x^2-1)=0|(29999*x-1)*(x-29999)=0");
        due(12, "1 / 30000", close.exact(1, 1), 30000);
        due(12, "1 / 29999", close.exact(2, 1), 29999);
        due(12, "the root of 1 / 29999", close.exact(3, 1), FAR - 2);
    }

    private static void commonDivisors() {
        RootJudge judge = read("(x^2-2)^2*(x^2-3)=0|(x^2-2)*(x^2-3)^2*(x-5)^2=0|(x^2-2)*(x^2+1)=0|(x^2+1)*(x^2+2)*(x-7)=0|x=x");
        long[] want = {4, 2, 2, 4, 5, 5};
        due(13, "roots", judge.count(4), 6);
        for (int k = 0; k < 6; k++) {
            due(13, "common(" + k + ")", judge.common(k), want[k]);
        }
        due(13, "common(-1)", judge.common(-1), BAD);
        due(13, "common(6)", judge.common(6), BAD);
        due(13, "one of eight", read("x^8=x^7").common(0), 2);
    }

    private static void simple(RootJudge judge, int cell, long above, long below) {
        due(14, "simple(" + cell + ", 0)", judge.simple(cell, 0), above);
        due(14, "simple(" + cell + ", 1)", judge.simple(cell, 1), below);
    }

    private static void simpleFractions() {
        RootJudge judge = read("2*x=0-7|3*x=0-10|x^2=2|7*x=11|2000*x=3201|2001*x=5000");
        simple(judge, 0, -4, 1);
        simple(judge, 1, -7, 2);
        simple(judge, 2, -17, 5);
        simple(judge, 3, -10, 3);
        simple(judge, 4, -2, 1);
        simple(judge, 5, FAR - 2, FAR - 2);
        simple(judge, 6, 0, 1);
        simple(judge, 7, FAR - 2, FAR - 2);
        simple(judge, 8, 3, 2);
        simple(judge, 9, 11, 7);
        simple(judge, 10, 8, 5);
        simple(judge, 11, 3201, 2000);
        simple(judge, 12, 2, 1);
        simple(judge, 13, FAR - 3, FAR - 3);
        simple(judge, 14, 3, 1);
        simple(read("x=x"), 0, 0, 1);
        RootJudge tight = read("1000*x=1|1001*x=1|999*x=1|x=5|x=6|x=0-5|x=0-6|x=0");
        simple(tight, 2, -11, 2);
        simple(tight, 4, -1, 1);
        simple(tight, 6, 1, 1002);
        simple(tight, 8, FAR - 3, FAR - 3);
        simple(tight, 10, 2, 1999);
        simple(tight, 12, 1, 1);
        simple(tight, 14, 11, 2);
        simple(tight, 16, 7, 1);
        due(14, "roots", tight.count(4), 8);
        int[][] bad = {{17, 0}, {-1, 0}, {0, 2}, {0, -1}, {Integer.MAX_VALUE, 1}, {1, Integer.MIN_VALUE}};
        for (int[] pair : bad) {
            due(14, "simple(" + pair[0] + ", " + pair[1] + ")", tight.simple(pair[0], pair[1]), FAR - 1);
        }
        RootJudge roots = read("(10^9*x-1)*x=0|(30000*x-1)^2=2");
        simple(roots, 0, -1, 1);
        simple(roots, 2, FAR - 3, FAR - 3);
        simple(roots, 4, FAR - 3, FAR - 3);
        simple(roots, 5, FAR - 3, FAR - 3);
        simple(roots, 6, FAR - 3, FAR - 3);
        simple(roots, 8, 1, 1);
        simple(read("x+10^9=0"), 0, -1000000001, 1);
        simple(read("x=10^9"), 2, 1000000001, 1);
    }

    private static void cells() {
        RootJudge judge = read("x^2=2|2*x=3");
        int[][] want = {{-2, 1, 0}, {-1, 1, 2}, {7, 5, 2}, {3, 2, 5}, {6, 4, 5}, {2, 1, 6}, {1000000000, 1, 6},
            {-1000000000, 1, 0}, {0, 1000000000, 2}, {141421356, 100000000, 2}, {141421357, 100000000, 4},
            {-141421356, 100000000, 2}, {-141421357, 100000000, 0}, {1000000000, 1000000000, 2}};
        for (int[] row : want) {
            due(15, "cellOf(" + row[0] + ", " + row[1] + ")", judge.cellOf(row[0], row[1]), row[2]);
        }
        for (int[] row : BAD_FRACTIONS) {
            due(15, "cellOf(" + row[0] + ", " + row[1] + ")", judge.cellOf(row[0], row[1]), BAD);
        }
        due(15, "no roots", read("1=1").cellOf(5, 3), 0);
        RootJudge near = read("x^8-10^9*x+1=0|x^7-10^9*x+1=0");
        due(15, "left of both", near.cellOf(1, 1000000000), 2);
        due(15, "right of both", near.cellOf(1, 999999999), 6);
    }

    private static final int[][] BAD_FRACTIONS = {{1, 0}, {1, -1}, {1, 1000000001}, {1000000001, 1}, {-1000000001, 1},
        {Integer.MIN_VALUE, 1}, {Integer.MAX_VALUE, 1}, {0, Integer.MIN_VALUE}, {0, Integer.MAX_VALUE}, {0, 0}};

    private static void signsAtFractions() {
        RootJudge judge = read("x^2<2|x=x|3>4|2*x=3|10^9*x^8=1|x^8-10^9*x+1=0");
        int[][] want = {{0, 7, 5, -1}, {0, 3, 2, 1}, {0, -3, 2, 1}, {1, 3, 2, 0}, {2, 3, 2, -1}, {3, 3, 2, 0},
            {3, -3, 2, -1}, {3, 6, 4, 0}, {4, 0, 1, -1}, {4, 1000000000, 1, 1}, {4, -1000000000, 1, 1},
            {4, 74989420, 1000000000, -1}, {4, 74989421, 1000000000, 1}, {5, 1, 1000000000, 1}, {5, 1, 999999999, -1}};
        for (int[] row : want) {
            due(16, "signAt(" + row[0] + ", " + row[1] + ", " + row[2] + ")", judge.signAt(row[0], row[1], row[2]), row[3]);
        }
        for (int[] row : BAD_FRACTIONS) {
            due(16, "signAt(0, " + row[0] + ", " + row[1] + ")", judge.signAt(0, row[0], row[1]), -2);
        }
        due(16, "signAt(6, 1, 1)", judge.signAt(6, 1, 1), -2);
        due(16, "signAt(-1, 1, 1)", judge.signAt(-1, 1, 1), -2);
    }

    /** More than half of the 512 calls of one object, with load() starting anew each time. */
    private static void manyCalls() {
        RootJudge judge = new RootJudge();
        for (int turn = 0; turn < 64; turn++) {
            typeAll(judge, turn % 2 == 0 ? "x^2<2" : "x=0");
            due(4, "load()", judge.load(), 0);
            due(4, "roots", judge.count(4), turn % 2 == 0 ? 2 : 1);
            due(4, "simple(0, 0)", judge.simple(0, 0), turn % 2 == 0 ? -2 : -1);
        }
    }
}
