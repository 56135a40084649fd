/**
 * The boundaries of how a text comes and is read: sections 'What it is' and 'Terms, the text', promises 1 to 4.
 * Each method stands for a sentence: the last value that is taken, and the first that is refused.
 */
public final class TextBoundariesTest {
    private static final int BAD = Calls.BAD;
    private static final String BEGINS_ONE = "0123456789x([~-";
    private static final String TOKENS = "0123456789x()[]|&~=<>+-*^";

    public static void main(String[] args) {
        all512CallsAreAnswered();
        fourLongTextsWithin512Calls();
        aTextHas400Signs();
        eachSignFrom32To126();
        blanksAreLeftOut();
        aNumberHas1To6Digits();
        atMost10Atoms();
        degreeOfAtMost8();
        factorsOfSums();
        factorsOfProducts();
        factorsOfPowers();
        factorsOfAtoms();
        polynomialsOnTheWay();
        powersOnTheWay();
        textsWithinTexts();
        sumsWithinSums();
        onesBehindNots();
        depthsDoNotAddUp();
        whatMayFollow();
        textEndsTooEarly();
        signThatBeginsNoTokenIsMetFirst();
        tooDeepIsMetAtItsSign();
        firstOfSeveralFaults();
        newObject();
        type();
        fourLeavesZerosOut();
        fourTakesOnlySigns();
        fourNeedsRoomForAll();
        refusedSignsChangeNothing();
        load();
        Report.end();
    }

    private static void due(String sentence, long got, long want) {
        Report.due(sentence, got, want);
    }

    private static void fault(String text, int kind, int place) {
        Calls.fault(text, kind, place);
    }

    private static void fine(String text) {
        Calls.fine(text);
    }

    private static void all512CallsAreAnswered() {
        Calls loads = new Calls();
        for (int i = 0; i < Calls.MOST; i++) {
            due("load " + i, loads.load(), 2);
        }
        Calls late = new Calls();
        for (int i = 0; i < 508; i++) {
            due("count(2), call " + i, late.count(2), 0);
        }
        due("509th", late.type('x'), 1);
        due("510th", late.type('='), 2);
        due("511th", late.type('1'), 3);
        due("512th, load()", late.load(), 0);
        Calls full = new Calls();
        for (int i = 0; i < 511; i++) {
            int c = i < 397 ? ' ' : i == 397 ? 'x' : i == 398 ? '=' : '1';
            due("type, call " + i, full.type(c), i < 400 ? i + 1 : BAD);
        }
        due("512th, load() of 400 signs", full.load(), 0);
        Calls asked = Calls.read("x^2=2");
        int call = asked.made();
        for (; call < Calls.MOST; call++) {
            due("root, call " + call, asked.root(1, call % 9), (long) (Math.sqrt(2) * Math.pow(10, call % 9)));
        }
        due("calls made", asked.made(), 512);
        Calls loads170 = new Calls();
        for (int i = 0; i < 170; i++) {
            boolean even = i % 2 == 0;
            due("four, turn " + i, loads170.four(Calls.packed(even ? "x=2" : "~x=2")), even ? 3 : 4);
            due("load(), turn " + i, loads170.load(), 0);
            due("cells in which it holds, turn " + i, loads170.count(5), even ? 1 : 2);
        }
        due("511th", loads170.judge(4), 2);
        due("512th", loads170.root(0, 8), 200000000);
        due("calls made", loads170.made(), 512);
    }

    private static String eightyRoots() {
        StringBuilder text = new StringBuilder();
        for (int c = 90; c <= 99; c++) {
            text.append(c > 90 ? "|" : "").append("((x^2-9)^2-40)^2=").append(c);
        }
        return text.toString();
    }

    private static void fourLongTextsWithin512Calls() {
        String text = eightyRoots();
        String long400 = " ".repeat(400 - text.length()) + text;
        Calls calls = new Calls();
        for (int turn = 0; turn < 4; turn++) {
            calls.write(long400);
            due("400 signs", calls.count(2), 400);
            due("load()", calls.load(), 0);
            due("roots", calls.count(4), 80);
            due("the last root", calls.root(79, 8), 400843142L);
            for (int i = 0; i < 22; i++) {
                due("simple", calls.simple(2 * i + 1, 0), Calls.FAR_NONE);
            }
            due("simple", calls.simple(160, 0), 5);
        }
        due("calls made", calls.made(), 508);
        calls.type('x');
        calls.type('=');
        calls.type('1');
        due("512th, load()", calls.load(), 0);
    }

    private static void aTextHas400Signs() {
        fine(" ".repeat(397) + "x=1");
        fine("x=1" + " ".repeat(397));
        fault(" ".repeat(398) + "x=", 2, 400);
        fault(" ".repeat(399) + "$", 1, 399);
        fault(" ".repeat(396) + "x=1]", 2, 399);
        fault(" ".repeat(393) + "1234567", 1, 399);
        fault(" ".repeat(400), 2, 400);
        Calls last = Calls.typed(" ".repeat(397) + "x=1");
        due("the 401st", last.type('2'), BAD);
        due("load()", last.load(), 0);
        due("the 400th counts, the 401st does not", last.atom(0, 0), -1);
        StringBuilder ones = new StringBuilder("x=1");
        while (ones.length() < 399) {
            ones.append("+1");
        }
        ones.append(" ");
        Calls summed = Calls.read(ones.toString());
        due("a sum over all signs", summed.atom(0, 0), -199);
        fine("x=" + "1".repeat(6) + "*1".repeat(196));
    }

    private static void eachSignFrom32To126() {
        for (int c = 32; c <= 126; c++) {
            Calls calls = new Calls();
            due("type(" + c + ")", calls.type(c), 1);
            int fault = c == ' ' || TOKENS.indexOf(c) >= 0 ? 2 : 1;
            due("load() of sign " + c, calls.load(), fault);
            due("place of sign " + c, calls.count(1), c == ' ' || BEGINS_ONE.indexOf(c) >= 0 ? 1 : 0);
        }
    }

    private static void sameAtoms(String text, String plain) {
        Calls one = Calls.read(text);
        Calls other = Calls.read(plain);
        due("all of '" + text + "'", one.shown().equals(other.shown()) ? 1 : 0, 1);
    }

    private static void blanksAreLeftOut() {
        sameAtoms("  ~ [ x ^ 2 * ( x - 12 ) < 3 | 2 * x = 5 & - x > 1 ]  ", "~[x^2*(x-12)<3|2*x=5&-x>1]");
        sameAtoms("x=1" + " ".repeat(300), "x=1");
        sameAtoms(" ".repeat(300) + "x=1", "x=1");
        sameAtoms("x" + " ".repeat(150) + "=" + " ".repeat(150) + "1", "x=1");
        fault("1 2=x", 2, 2);
        fault("x^1 2=x", 2, 4);
        fault("123456 7=x", 2, 7);
        fault("123 4567=x", 2, 4);
        fault("  x  y", 1, 5);
    }

    private static void number(String digits, int value) {
        due("the number " + digits, Calls.read(digits + "=0*x").atom(0, 0), value);
        due("the number " + digits, Calls.read("0=" + digits).atom(0, 0), -value);
    }

    private static void aNumberHas1To6Digits() {
        number("0", 0);
        number("9", 9);
        number("10", 10);
        number("12", 12);
        number("123", 123);
        number("1234", 1234);
        number("12345", 12345);
        number("123456", 123456);
        number("999999", 999999);
        number("100000", 100000);
        number("000000", 0);
        number("000007", 7);
        fault("1234567=x", 1, 6);
        fault("0000000=x", 1, 6);
        fault("0000001=x", 1, 6);
        fault("12345678=x", 1, 6);
        fault("x=1234567", 1, 8);
        fault("x=1234567890123", 1, 8);
        fault(" 1234567", 1, 7);
        fault("(1234567)=x", 1, 7);
        fault("x^0000001=1", 1, 8);
        fault("x^1234567=1", 1, 8);
        fault("2*1234567=x", 1, 8);
        fault("-1234567=x", 1, 7);
        fine("x^000001=1");
        fine("1^999999=x");
        Calls halves = new Calls();
        halves.four(Calls.packed("1234"));
        halves.four(Calls.packed("56=0"));
        due("a number that comes in two calls", halves.load(), 0);
        due("its value", halves.atom(0, 0), 123456);
    }

    private static String atoms(int many, char rel, String join) {
        StringBuilder text = new StringBuilder();
        for (int i = 0; i < many; i++) {
            text.append(i > 0 ? join : "").append("x").append(rel).append(i);
        }
        return text.toString();
    }

    private static void atMost10Atoms() {
        for (char rel : "=<>".toCharArray()) {
            Calls ten = Calls.read(atoms(10, rel, "|"));
            due("atoms", ten.count(3), 10);
            for (int i = 0; i < 10; i++) {
                due("atom " + i, ten.atom(i, 0), -i);
            }
            due("none such", ten.atom(10, 0), Calls.BAD_ATOM);
            fault(atoms(11, rel, "|"), 3, 41);
            fault(atoms(10, '=', "&") + "&  x   " + rel + "  1", 3, 46);
            fault(atoms(10, '=', "|") + "|x" + rel, 3, 41);
            fault(atoms(10, '=', "|") + "|x" + rel + "$", 3, 41);
            fault(atoms(10, '=', "|") + "|x" + rel + "x^9", 3, 41);
            fault(atoms(10, '=', "|") + "|x" + rel + "]", 3, 41);
        }
        fine("[" + atoms(5, '=', "|") + "]&~[" + atoms(5, '<', "&") + "]");
        fault("[" + atoms(5, '=', "|") + "]&~[" + atoms(6, '<', "&") + "]", 3, 45);
        fault(atoms(10, '=', "|") + "|x", 2, 41);
        fault(atoms(10, '=', "|") + "|x]", 2, 41);
        fault(atoms(10, '=', "|") + "|x$", 1, 41);
        fault(atoms(10, '=', "|") + "|x*x^9=0", 3, 43);
        fault(atoms(10, '=', "|") + "|", 2, 40);
        fault(atoms(12, '=', "|"), 3, 41);
    }

    private static void degreeOfAtMost8() {
        fine("x^8=0");
        fault("x^9=0", 3, 1);
        fine("x^000008=0");
        fault("x^000009=0", 3, 1);
        fault("x ^ 999999=0", 3, 2);
        fine("x*x*x*x*x*x*x*x=0");
        fault("x*x*x*x*x*x*x*x*x=0", 3, 15);
        fine("x^7*x=0");
        fault("x^8*x=0", 3, 3);
        fine("x^4*x^4=0");
        fault("x^4*x^5=0", 3, 3);
        fine("(x^2)^4=0");
        fault("(x^2)^5=0", 3, 5);
        fault("(x^3)^3=0", 3, 5);
        fine("(x^8)^1=0");
        fine("(x^8)^0=0");
        fault("(x^8)^2=0", 3, 5);
        fine("(x+1)^8=0");
        fault("(x+1)^9=0", 3, 5);
        fine("(x^4-1)*(x^4+1)=0");
        fault("(x^5-1)*(x^4+1)=0", 3, 7);
        fine("x^8+x^8=0");
        fine("x^8=x^8");
        fine("x^8+1=x^8-x");
        fine("0*x^8*x=0");
        fine("x^8*0*x=0");
        fault("x=x^8*x", 3, 5);
        fault("x=1|x^9<0", 3, 5);
        fault("x=1&[x>0|~x^9<0]", 3, 11);
    }

    /** A sum whose factor of x to the power k becomes the number, and no other goes beyond it. */
    private static void factor(String sum, int k, long value) {
        due("factor " + k + " of " + sum, Calls.read(sum + "=0").atom(0, k), value);
    }

    private static void factorsOfSums() {
        for (int k = 0; k <= 8; k++) {
            String x = "x^" + k;
            factor("(10^9-1)*" + x + "+" + x, k, 1000000000);
            fault("10^9*" + x + "+" + x + "=0", 3, 8);
            factor("-(10^9-1)*" + x + "-" + x, k, -1000000000);
            fault("-10^9*" + x + "-" + x + "=0", 3, 9);
            factor("(10^9-1)*" + x + "-(0-" + x + ")", k, 1000000000);
            fault("10^9*" + x + "-(0-" + x + ")=0", 3, 8);
            factor("-(10^9-1)*" + x + "+(0-" + x + ")", k, -1000000000);
            fault("-10^9*" + x + "+(0-" + x + ")=0", 3, 9);
            factor("-10^9*" + x, k, -1000000000);
            factor("-(10^9*" + x + ")", k, -1000000000);
        }
        fault("x+10^9+1=0", 3, 6);
        fault("10^9+10^9=0", 3, 4);
        fault("-10^9-10^9=0", 3, 5);
        fine("10^9-10^9=0");
    }

    private static void factorsOfProducts() {
        for (int k = 0; k <= 8; k++) {
            String x = "x^" + k;
            factor("31250*" + x + "*32000", k, 1000000000);
            factor("(0-31250)*" + x + "*32000", k, -1000000000);
            factor("31250*(0-" + x + ")*32000", k, -1000000000);
            factor("(0-31250)*" + x + "*(0-32000)", k, 1000000000);
            fault("19019*" + x + "*52579=0", 3, 9);
            fault("(0-19019)*" + x + "*52579=0", 3, 13);
            fault("(0-19019)*" + x + "*(0-52579)=0", 3, 13);
        }
        fault("10^9*10^9=0", 3, 4);
        fault("(10^9*x^8+10^9)*(10^9)=0", 3, 15);
        fault("(10^9*(1+x+x^2+x^3+x^4))*(10^9*(1+x+x^2+x^3+x^4))=0", 3, 24);
        fault("(10^9*(1+x+x^2+x^3+x^4))*(-10^9*(1+x+x^2+x^3+x^4))=0", 3, 24);
        fine("(25000*x+1)*(20000*x-1)*2=0");
        fault("(25001*x+1)*(20000*x-1)*2=0", 3, 23);
    }

    private static void factorsOfPowers() {
        factor("1000^3", 0, 1000000000);
        factor("(0-1000)^3", 0, -1000000000);
        factor("(1000*x)^3", 3, 1000000000);
        factor("10^9", 0, 1000000000);
        factor("(0-10)^9", 0, -1000000000);
        fault("1001^3=0", 3, 4);
        fault("(0-1001)^3=0", 3, 8);
        fault("(1001*x)^3=0", 3, 8);
        fault("10^10=0", 3, 2);
        fault("(0-10)^10=0", 3, 6);
        factor("2^29", 0, 536870912);
        fault("2^30=0", 3, 1);
        factor("(0-2)^29", 0, -536870912);
        fault("(0-2)^30=0", 3, 5);
        factor("31622^2", 0, 999950884);
        fault("31623^2=0", 3, 5);
        factor("(25000*x^2+20000)^2", 2, 1000000000);
        fault("(25000*x^2+x+20000)^2=0", 3, 19);
        factor("(25000*x^2-20000)^2", 2, -1000000000);
        fault("(21759*x^2+11*x-22979)^2=0", 3, 22);
    }

    private static void factorsOfAtoms() {
        for (int k = 0; k <= 8; k++) {
            String x = "x^" + k;
            due("rel", Calls.read("(10^9-1)*" + x + "=0-" + x).atom(0, k), 1000000000);
            fault("10^9*" + x + "=0-" + x, 3, 8);
            due("rel", Calls.read("-(10^9-1)*" + x + ">" + x).atom(0, k), -1000000000);
            fault("-10^9*" + x + "<" + x, 3, 9);
            fault("-" + x + ">10^9*" + x, 3, 4);
            due("rel", Calls.read("0>10^9*" + x).atom(0, k), -1000000000);
        }
        fault("10^9=-10^9", 3, 4);
        fine("10^9=10^9");
    }

    private static void polynomialsOnTheWay() {
        fault("10^9+1-1=x", 3, 4);
        fault("1-10^9-2+5=x", 3, 6);
        fine("1-2+5-10^9=x");
        fault("10^9*2*0=x", 3, 4);
        fine("0*10^9*2=x");
        fault("(10^9+1)*0=x", 3, 5);
        fault("0*(10^9+1)=x", 3, 7);
        fault("x^8*x*0=1", 3, 3);
        fault("(x^8*x-x^8*x)=1", 3, 4);
        fault("0*x^9=1", 3, 3);
        fault("1001^3*0=x", 3, 4);
        fault("1001^3-1001^3=x", 3, 4);
        fault("10^9+1=10^9+1", 3, 4);
    }

    private static void powersOnTheWay() {
        factor("1^999999", 0, 1);
        factor("0^999999", 0, 0);
        factor("(0-1)^999999", 0, -1);
        factor("(0-1)^999998", 0, 1);
        factor("(x-x)^999999", 0, 0);
        factor("(x-x+1)^999999", 0, 1);
        factor("(x-x-1)^999999", 0, -1);
        fault("2^999999=0", 3, 1);
        fault("(0-2)^999999=0", 3, 5);
        factor("x^0", 0, 1);
        factor("0^0", 0, 1);
        factor("(10^9*x^8)^0", 0, 1);
        factor("(10^9*x^8)^0", 8, 0);
        factor("(10^9*x^8)^1", 8, 1000000000);
        factor("(0-10^9)^1", 0, -1000000000);
        fault("(10^9)^2=0", 3, 6);
        factor("-2^2", 0, -4);
        factor("(0-2)^2", 0, 4);
    }

    private static void textsWithinTexts() {
        String open = "[".repeat(10);
        String shut = "]".repeat(10);
        fine(open + "x=1" + shut);
        fault(open + "[x=1]" + shut, 3, 10);
        fault(open + "x=1|[x=1]" + shut, 3, 14);
        fault(open + "x=1&~[x=1]" + shut, 3, 15);
        fault(" [ [ [ [ [ [ [ [ [ [  [ x=1", 3, 22);
        fine(open + "x=1" + shut + "|" + open + "x=1" + shut);
        fault(open + "x=1" + shut + "|[" + open + "x=1" + shut + "]", 3, 34);
        fine("x=0|" + open + "x=1" + shut);
        fine("[x=1]&[x=2]&[x=3]&[x=4]&[x=5]&[[x=6]|[x=7]]");
        fault(open + "x=1" + shut.substring(1), 2, 22);
        fault(open + "x=1" + shut + "]", 2, 23);
    }

    private static void sumsWithinSums() {
        String open = "(".repeat(10);
        String shut = ")".repeat(10);
        fine(open + "x" + shut + "=1");
        fault(open + "(x)" + shut + "=1", 3, 10);
        fine("1=" + open + "x" + shut);
        fault("1=" + open + "(x)" + shut, 3, 12);
        fine(open + "x" + shut + "=" + open + "x" + shut);
        fine("2*" + open + "x" + shut + "+" + open + "x" + shut + "=0");
        fault("2*" + open + "x" + shut + "-(" + open + "x" + shut + ")=0", 3, 34);
        fault(open + "x+(x)" + shut + "=1", 3, 12);
        fault(open + "x*(x)" + shut + "=1", 3, 12);
        fault(open + "-(x)" + shut + "=1", 3, 11);
        fault(" ( ( ( ( ( ( ( ( ( (  ( x", 3, 22);
        fine("(x)+(x)+(x)+(x)+(x)+(x)+(x)+(x)+(x)+(x)+(x)+(x)=0");
        fault(open + "x" + shut.substring(1) + "=1", 2, 20);
        fault(open + "x" + shut + ")=1", 2, 21);
    }

    private static void onesBehindNots() {
        String nots = "~".repeat(10);
        Calls even = Calls.read(nots + "x<1");
        due("ten ~", even.holds(0), 1);
        due("nine ~", Calls.read("~".repeat(9) + "x<1").holds(0), 0);
        fault("~" + nots + "x=1", 3, 10);
        fault(" ~ ~ ~ ~ ~ ~ ~ ~ ~ ~  ~ x=1", 3, 22);
        fine(nots + "[x=1]");
        fault("~" + nots + "[x=1]", 3, 10);
        fine(nots + "x=1&" + nots + "x=2|" + nots + "x=3");
        fault(nots + "x=1&~" + nots + "x=2", 3, 24);
        fault("[" + nots + "~x=1]", 3, 11);
        fault(nots, 2, 10);
        fault("~" + nots, 3, 10);
        fault("~".repeat(400), 3, 10);
    }

    private static void depthsDoNotAddUp() {
        String x = "(".repeat(10) + "x" + ")".repeat(10);
        String deep = "[".repeat(10) + "~".repeat(10) + x + "=" + x + "]".repeat(10);
        fine(deep);
        fine("~".repeat(10) + deep);
        fine("~[".repeat(10) + "~" + x + "<0" + "]".repeat(10));
        StringBuilder all = new StringBuilder();
        for (int i = 0; i < 10; i++) {
            all.append(i > 0 ? "|" : "").append("~[".repeat(10)).append("~x=").append(i).append("]".repeat(10));
        }
        Calls many = Calls.read(all.toString());
        due("each is denied 11 times", many.count(5), 21);
        Calls some = Calls.read(all.toString().replace("|", "&"));
        due("each is denied 11 times", some.count(5), 11);
    }

    /** Every sign behind a beginning: those that may come (the text then ends too early), other tokens, no tokens. */
    private static void follow(String begin, String may) {
        int end = begin.length();
        for (char c = 33; c <= 126; c++) {
            if (may.indexOf(c) >= 0) {
                fault(begin + c, 2, end + 1);
            } else {
                fault(begin + c, TOKENS.indexOf(c) >= 0 ? 2 : 1, end);
                fault(begin + "  " + c + "x=1", TOKENS.indexOf(c) >= 0 ? 2 : 1, end + 2);
            }
        }
        fault(begin + " ", 2, end + 1);
    }

    private static void whatMayFollow() {
        String digits = "0123456789";
        for (String begin : new String[] {"", "~", "[", "~[", "x=1&", "x=1|", "[x=1]&", "[x=1|"}) {
            follow(begin, BEGINS_ONE);
        }
        for (String begin : new String[] {"(", "[x=", "[x<", "[x>", "[(", "x*("}) {
            follow(begin, digits + "x(-");
        }
        for (String begin : new String[] {"-", "x+", "x-", "x*", "[x=-", "(-", "5+"}) {
            follow(begin, digits + "x(");
        }
        follow("x", "+-*^=<>");
        follow("(x)", "+-*^=<>");
        follow("(x", "+-*^)");
        follow("1^", digits);
        follow("[x=2^", digits);
        follow("1^0", digits + "+-*=<>");
        follow("5", digits + "+-*^=<>");
        fault("x^2", 2, 3);
        fault("5", 2, 1);
        fault("x^2^2=1", 2, 3);
        fault("x^(2)=1", 2, 2);
        fault("5x=1", 2, 1);
        fault("x5=1", 2, 1);
        fault("(5(x=1", 2, 2);
        behindWholeText();
    }

    private static void behindWholeText() {
        for (char c = 33; c <= 126; c++) {
            boolean token = TOKENS.indexOf(c) >= 0;
            boolean joins = "|&".indexOf(c) >= 0;
            boolean goesOn = joins || "+-*^".indexOf(c) >= 0;
            fault("x=x" + c, token ? 2 : 1, goesOn ? 4 : 3);
            fault("[x=x]" + c, token ? 2 : 1, joins ? 6 : 5);
            fault("[x=x" + c, c == ']' ? 0 : token ? 2 : 1, goesOn ? 5 : 4);
        }
        fine("x=x ");
        fine("[x=x] ");
    }

    private static void textEndsTooEarly() {
        String text = "~[x^2*(x-(3+x))<31|-x=2&[x>1]";
        for (int end = 0; end <= text.length(); end++) {
            String begin = text.substring(0, end);
            fault(begin, 2, end);
            fault(begin + "    ", 2, end + 4);
            fault(begin + " ".repeat(400 - end), 2, 400);
        }
        fine(text + "]");
        fault("", 2, 0);
    }

    /** A polynomial that is too much is made when the sign behind was looked at. */
    private static void tooMuch(String text, int place) {
        int end = text.length();
        fault(text, 3, place);
        fault(text + "   ", 3, place);
        fault(text + "]", 3, place);
        fault(text + " )", 3, place);
        fault(text + "~", 3, place);
        fault(text + " x", 3, place);
        fault(text + " 7", 3, place);
        fault(text + " 1234567", 3, place);
        fault(text + "+x", 3, place);
        fault(text + "]$", 3, place);
        for (char c : "$ya.,/{}!\"'X".toCharArray()) {
            fault(text + c, 1, end);
            fault(text + "   " + c, 1, end + 3);
        }
    }

    private static void signThatBeginsNoTokenIsMetFirst() {
        tooMuch("999999*999999", 6);
        tooMuch("x^9", 1);
        tooMuch("x^4*x^5", 3);
        tooMuch("x^4*(x^5)", 3);
        tooMuch("(x+1)^9", 5);
        tooMuch("1=10^9+10^9", 6);
        tooMuch("1=-10^9-10^9", 7);
        tooMuch("10^9=-10^9", 4);
        tooMuch("x=0|10^9<0-1", 8);
        tooMuch("x=0|10^9>(0-1)", 8);
        fault("(x^9)$", 3, 2);
        fault("(10^9+1)$", 3, 5);
        fault("x^9=$", 3, 1);
        fault("10^9+1*$", 1, 7);
        fault("10^9+1^$", 1, 7);
        fault("10^9+1*2$", 1, 8);
        fault("10^9+1*2", 3, 4);
        fault("10^9+(1$", 1, 7);
        fault("10^9=0-1*$", 1, 9);
    }

    private static void tooDeepIsMetAtItsSign() {
        for (char c : "$x]~1 ".toCharArray()) {
            fault("[".repeat(11) + c, 3, 10);
            fault("(".repeat(11) + c, 3, 10);
            fault("~".repeat(11) + c, 3, 10);
        }
        for (char c : "$ya/".toCharArray()) {
            fault("[".repeat(10) + c, 1, 10);
            fault("(".repeat(10) + c, 1, 10);
            fault("~".repeat(10) + c, 1, 10);
        }
    }

    private static void firstOfSeveralFaults() {
        fault("$]x^9", 1, 0);
        fault("]$x^9", 2, 0);
        fault("x]$", 2, 1);
        fault("x=1]$", 2, 3);
        fault("x^9]$", 3, 1);
        fault("x^5*x^9=0", 3, 5);
        fault("10^9+999999*999999=x", 3, 11);
        fault("x^9+1234567", 3, 1);
        fault("1234567^9", 1, 6);
        fault("999999*1234567=x", 1, 13);
        fault("x^1234567$", 1, 8);
        fault("x 1234567", 2, 2);
        fault("x=1|x=]|$", 2, 6);
        fault("x=1|x=$|]", 1, 6);
    }

    private static void newObject() {
        Calls calls = new Calls();
        calls.nothingRead("a new object:");
        due("its fault", calls.count(0), 0);
        due("its place", calls.count(1), Calls.NONE);
        due("its signs", calls.count(2), 0);
        Calls typed = Calls.typed("x=1");
        typed.nothingRead("typed, not read:");
        due("its fault", typed.count(0), 0);
        due("its place", typed.count(1), Calls.NONE);
        due("its signs", typed.count(2), 3);
        due("it is read then", typed.load(), 0);
        due("atoms", typed.count(3), 1);
        due("the text of a new object is empty", new Calls().load(), 2);
    }

    private static void type() {
        Calls calls = new Calls();
        for (int c : new int[] {31, 127, 0, -1, 1, 10, 128, 255, 256, 256 + 'x', 65536 + 'x', -'x', Calls.LEAST_INT,
            Calls.GREATEST_INT}) {
            due("type(" + c + ")", calls.type(c), BAD);
        }
        due("none came", calls.count(2), 0);
        due("type(32)", calls.type(32), 1);
        due("type(126)", calls.type(126), 2);
        for (int i = 3; i <= 400; i++) {
            due("sign " + i, calls.type(33 + i % 94), i);
        }
        due("the 401st", calls.type('x'), BAD);
        due("a blank as the 401st", calls.type(' '), BAD);
        due("no sign as the 401st", calls.type(31), BAD);
        due("signs", calls.count(2), 400);
        calls.load();
        due("room again", calls.type('x'), 1);
    }

    private static void fourLeavesZerosOut() {
        String[] orders = {"xyzw", "xyz", "xyw", "xzw", "yzw", "x", "y", "z", "w", "xw", "yz", ""};
        for (String order : orders) {
            Calls calls = new Calls();
            int number = 0;
            for (int i = 0; i < 4; i++) {
                char sign = "1234".charAt(i);
                number = (number << 8) | (order.indexOf("xyzw".charAt(i)) >= 0 ? sign : 0);
            }
            due("four(" + number + ")", calls.four(number), order.length());
            due("signs", calls.count(2), order.length());
            calls.write("=0");
            String digits = order.replace('x', '1').replace('y', '2').replace('z', '3').replace('w', '4');
            due("load()", calls.load(), digits.isEmpty() ? 2 : 0);
            due("highest first", calls.atom(0, 0), digits.isEmpty() ? Calls.BAD_ATOM : Integer.parseInt(digits));
        }
        Calls calls = new Calls();
        due("four(0)", calls.four(0), 0);
        due("blanks are signs", calls.four(0x20202020), 4);
        due("126", calls.four(0x7E7E7E7E), 8);
        due("32 and 126", calls.four(0x207E0000), 10);
    }

    private static void fourTakesOnlySigns() {
        for (int shift = 0; shift <= 24; shift += 8) {
            int others = 0x78787878 & ~(255 << shift);
            for (int c : new int[] {1, 31, 127, 128, 128 + 'x', 255}) {
                Calls calls = new Calls();
                due("sign " + c + " among others", calls.four(others | c << shift), BAD);
                due("sign " + c + " alone", calls.four(c << shift), BAD);
                due("nothing came", calls.count(2), 0);
                due("an empty text", calls.load(), 2);
                due("its place", calls.count(1), 0);
            }
            Calls calls = new Calls();
            due("sign 32", calls.four(others | 32 << shift), 4);
            due("sign 126", calls.four(others | 126 << shift), 8);
        }
        Calls calls = new Calls();
        due("the least int", calls.four(Calls.LEAST_INT), BAD);
        due("the greatest int", calls.four(Calls.GREATEST_INT), BAD);
        due("-1", calls.four(-1), BAD);
        due("nothing came", calls.count(2), 0);
    }

    private static void fourNeedsRoomForAll() {
        int[] signs = {0, 0x20, 0x20002000, 0x00202020, 0x20202020};
        for (int there = 395; there <= 400; there++) {
            for (int coming = 0; coming <= 4; coming++) {
                Calls calls = Calls.typed(" ".repeat(there));
                boolean fits = there + coming <= 400;
                due(coming + " more than " + there, calls.four(signs[coming]), fits ? there + coming : BAD);
                due("signs", calls.count(2), fits ? there + coming : there);
            }
        }
        Calls full = Calls.typed(" ".repeat(400));
        due("no sign, no room", full.four(0x1F000000), BAD);
        due("signs", full.count(2), 400);
    }

    private static void refusedSignsChangeNothing() {
        Calls calls = Calls.typed("x=1");
        calls.type(31);
        calls.type(127);
        calls.four(0x3131317F);
        calls.four(0x1F313131);
        due("signs", calls.count(2), 3);
        due("load()", calls.load(), 0);
        due("the text", calls.atom(0, 0), -1);
        Calls full = Calls.typed(" ".repeat(395) + "x=1");
        due("no room", full.four(Calls.packed("2345")), BAD);
        due("signs", full.count(2), 398);
        due("room for two", full.four(Calls.packed("67")), 400);
        due("no room", full.type('8'), BAD);
        due("load()", full.load(), 0);
        due("the text", full.atom(0, 0), -167);
    }

    private static void load() {
        Calls calls = new Calls();
        due("the empty text", calls.load(), 2);
        due("its place", calls.count(1), 0);
        calls.write("x=1|x=2");
        due("load()", calls.load(), 0);
        due("the text is empty then", calls.count(2), 0);
        due("nothing is added to what was read", calls.type('x'), 1);
        due("what was read stays while signs come", calls.count(4), 2);
        due("load()", calls.load(), 2);
        due("its place", calls.count(1), 1);
        due("the text is empty after a fault", calls.count(2), 0);
        calls.nothingRead("after a fault:");
        calls.write("x=5");
        due("nothing is read before load()", calls.count(3), BAD);
        due("load()", calls.load(), 0);
        due("fault", calls.count(0), 0);
        due("place", calls.count(1), Calls.NONE);
        due("atoms", calls.count(3), 1);
        due("the empty text again", calls.load(), 2);
        due("nothing is read then", calls.count(3), BAD);
        due("nothing is read then", calls.holds(0), BAD);
        for (String spoilt : new String[] {"$", "x=1]", "x=1|x^9=0", "x=1&", "x=1|[[[[[[[[[[["}) {
            Calls after = Calls.read("x=1|x=2");
            after.write(spoilt);
            due("load() of " + spoilt, after.load() > 0 ? 1 : 0, 1);
            after.nothingRead("after " + spoilt + ":");
            due("signs", after.count(2), 0);
        }
    }
}
