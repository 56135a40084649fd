/**
 * What a text means, by the grammar of section 'Terms': which atoms there are and in which order, what their sums
 * come to, and where the text holds.
 */
public final class MeaningTest {
    /** Three conditions, of which at 1, 2, .. 8 each combination is met once. */
    private static final String[] CONDITIONS = {"2*x>9", "(2*x-5)*(2*x-9)*(2*x-13)>0",
        "(2*x-3)*(2*x-5)*(2*x-7)*(2*x-9)*(2*x-11)*(2*x-13)*(2*x-15)>0"};

    private interface Truth {
        boolean of(boolean a, boolean b, boolean c);
    }

    public static void main(String[] args) {
        rels();
        combinations();
        andOrNot();
        brackets();
        atomsInTheirOrder();
        sums();
        products();
        powers();
        firstSumLessSecond();
        Report.end();
    }

    private static void rels() {
        String[] texts = {"x-3=0", "x-3<0", "x-3>0", "x=3", "x<3", "x>3", "3=x", "3>x", "3<x"};
        long[][] held = {{0, 1, 0}, {1, 0, 0}, {0, 0, 1}};
        for (int i = 0; i < texts.length; i++) {
            Calls calls = Calls.read(texts[i]);
            for (int cell = 0; cell <= 2; cell++) {
                Report.due(texts[i] + " in cell " + cell, calls.holds(cell), held[i % 3][cell]);
            }
        }
    }

    private static boolean met(int x, int condition) {
        int number = x - 1;
        boolean a = number >= 4;
        boolean b = number % 4 >= 2;
        boolean c = number % 2 == 1;
        return condition == 0 ? a : condition == 1 ? b : c;
    }

    private static String filled(String form) {
        return form.replace("a", CONDITIONS[0]).replace("b", CONDITIONS[1]).replace("c", CONDITIONS[2]);
    }

    private static void combinations() {
        for (int i = 0; i < 3; i++) {
            Calls calls = Calls.read(CONDITIONS[i]);
            for (int x = 1; x <= 8; x++) {
                Report.due(CONDITIONS[i] + " at " + x, calls.holds(calls.cellOf(x, 1)), met(x, i) ? 1 : 0);
            }
        }
    }

    private static void holds(String form, Truth truth) {
        Calls calls = Calls.read(filled(form));
        for (int x = 1; x <= 8; x++) {
            boolean due = truth.of(met(x, 0), met(x, 1), met(x, 2));
            Report.due(form + " at " + x, calls.holds(calls.cellOf(x, 1)), due ? 1 : 0);
        }
    }

    private static void andOrNot() {
        holds("a&b", (a, b, c) -> a && b);
        holds("a|b", (a, b, c) -> a || b);
        holds("~a", (a, b, c) -> !a);
        holds("~~a", (a, b, c) -> a);
        holds("~~~a", (a, b, c) -> !a);
        holds("a&b&c", (a, b, c) -> a && b && c);
        holds("a|b|c", (a, b, c) -> a || b || c);
        holds("a&b|c", (a, b, c) -> a && b || c);
        holds("a|b&c", (a, b, c) -> a || b && c);
        holds("a&b|b&c", (a, b, c) -> a && b || b && c);
        holds("~a&b", (a, b, c) -> !a && b);
        holds("~a|b", (a, b, c) -> !a || b);
        holds("a&~b|~c", (a, b, c) -> a && !b || !c);
        holds("~a|~b&~~c", (a, b, c) -> !a || !b && c);
        holds("a&~a", (a, b, c) -> false);
        holds("c|~c", (a, b, c) -> true);
    }

    private static void brackets() {
        holds("[a]", (a, b, c) -> a);
        holds("[[[a]]]", (a, b, c) -> a);
        holds("[a|b]&c", (a, b, c) -> (a || b) && c);
        holds("a&[b|c]", (a, b, c) -> a && (b || c));
        holds("~[a&b]", (a, b, c) -> !(a && b));
        holds("~[a|b]", (a, b, c) -> !(a || b));
        holds("~[a|b]&c", (a, b, c) -> !(a || b) && c);
        holds("~[a|b|c]", (a, b, c) -> !(a || b || c));
        holds("~~[a|b&c]", (a, b, c) -> a || b && c);
        holds("~[~a&~[b|~c]]", (a, b, c) -> a || b || !c);
        holds("[a|~b]&[b|~a]", (a, b, c) -> a == b);
        holds("~[~[~[a&b]|c]]", (a, b, c) -> !(a && b) || c);
        holds("a&[b|[c&[a|b]]]", (a, b, c) -> a && (b || c));
    }

    private static void atomsInTheirOrder() {
        Calls calls = Calls.read("~[x=1|[x<2&~x>3]]&[~~[x=4]|x<5]|[[x>6&x=7]]|x<8&x>9|~x=10");
        int[] rels = {0, 1, 2, 0, 1, 2, 0, 1, 2, 0};
        Report.due("atoms", calls.count(3), 10);
        for (int i = 0; i < 10; i++) {
            Report.due("the number in atom " + i, calls.atom(i, 0), -i - 1);
            Report.due("the rel of atom " + i, calls.atom(i, 10), rels[i]);
            Report.due("its sign below all", calls.sign(0, i), -1);
            Report.due("where it is 0", calls.times(i, i), 1);
        }
        Calls twice = Calls.read("x=1|x=1");
        Report.due("the same twice are two", twice.count(3), 2);
        Report.due("with one root", twice.count(4), 1);
    }

    private static void sum(String sum, long... factors) {
        Calls calls = Calls.read(sum + "=0");
        for (int k = 0; k <= 8; k++) {
            Report.due("factor " + k + " of " + sum, calls.atom(0, k), k < factors.length ? factors[k] : 0);
        }
    }

    private static void sums() {
        sum("1-2-3", -4);
        sum("1-2+3", 2);
        sum("1-(2+3)", -4);
        sum("1-(2-3)", 2);
        sum("-1-2", -3);
        sum("-1+2", 1);
        sum("-x+1", 1, -1);
        sum("-(x+1)", -1, -1);
        sum("-(-(-x))", 0, -1);
        sum("3-(-x)", 3, 1);
        sum("7-(3-(2-x))", 6, -1);
        sum("x-x", 0);
        sum("x+x+x-1", -1, 3);
        sum("((5))", 5);
    }

    private static void products() {
        sum("2*3*4", 24);
        sum("2*3-4*5", -14);
        sum("2+3*4", 14);
        sum("(2+3)*4", 20);
        sum("-2*3", -6);
        sum("-2*3+10", 4);
        sum("1-2*x", 1, -2);
        sum("x*2*x", 0, 0, 2);
        sum("(x+1)*(x-1)", -1, 0, 1);
        sum("(x+1)*(x-1)*x", 0, -1, 0, 1);
        sum("x-1*x-1", -1, 0);
        sum("0*x", 0);
        sum("(x^3+2*x-1)*(3*x^2-x+4)", -4, 9, -5, 10, -1, 3);
    }

    private static void powers() {
        sum("2^3", 8);
        sum("-2^2", -4);
        sum("(-2)^2", 4);
        sum("(-2)^3", -8);
        sum("2*3^2", 18);
        sum("(2*3)^2", 36);
        sum("2^2*3", 12);
        sum("2^2+1", 5);
        sum("-x^2", 0, 0, -1);
        sum("2*x^3", 0, 0, 0, 2);
        sum("(2*x)^3", 0, 0, 0, 8);
        sum("x^0", 1);
        sum("x^1", 0, 1);
        sum("x^2*x^3", 0, 0, 0, 0, 0, 1);
        sum("(x^2)^3", 0, 0, 0, 0, 0, 0, 1);
        sum("(x-2)^4", 16, -32, 24, -8, 1);
        sum("((x+1)^2-x)^2", 1, 2, 3, 2, 1);
    }

    private static void firstSumLessSecond() {
        for (char rel : "=<>".toCharArray()) {
            Calls calls = Calls.read("2*x^2-x+5" + rel + "-x^2+4*x-(7-x)");
            long[] factors = {12, -6, 3, 0, 0, 0, 0, 0, 0, 2};
            for (int k = 0; k <= 9; k++) {
                Report.due("first less second, " + k, calls.atom(0, k), factors[k]);
            }
        }
        Report.due("0 less a sum", Calls.read("0=x-3").atom(0, 0), 3);
        Report.due("0 less a sum", Calls.read("0=x-3").atom(0, 1), -1);
    }
}
