import java.math.BigInteger;
import java.util.ArrayList;
import java.util.List;
import java.util.Random;

/**
 * Compares RootJudge with a slow judge that shares no method with it: polynomials of BigInteger, one
 * squarefree product for all atoms, Sturm's chain for counting, and plain search for the rest.
 * Arguments (both optional): how many texts of each kind, and the seed.
 */
public final class OracleTest {
    private static final long FAR = -9000000000000000000L;
    private static int wrong = 0;
    private static long asked = 0;
    private static RootJudge judge = null;
    private static int texts = 0;

    public static void main(String[] args) {
        int many = args.length > 0 ? Integer.parseInt(args[0]) : 60;
        long seed = args.length > 1 ? Long.parseLong(args[1]) : 20261115L;
        Random random = new Random(seed);
        for (String text : FIXED) {
            compare(text, random);
        }
        for (int i = 0; i < many; i++) {
            compare(Texts.sums(random), random);
            compare(Texts.products(random), random);
            compare(Texts.close(random), random);
            compare(Texts.large(random), random);
            if (i % 4 == 0) {
                compare(Texts.many(random), random);
                compare(Texts.neighbours(random), random);
                compare(Texts.far(random), random);
            }
            for (int j = 0; j < 20; j++) {
                compareFault(Texts.spoilt(random));
                compareFault(Texts.noise(random));
            }
        }
        System.out.println(asked + " answers compared, " + wrong + " wrong");
        System.exit(wrong == 0 ? 0 : 1);
    }

    private static final String[] FIXED = {
        "x=0", "0=0", "0<0|x>x", "5>0", "x^2=2&x^3=3", "~[x<0|x>0]", "x^8-1000*1000*1000*x+1=0|1000*1000*1000*x=1",
        "x^8-1000*1000*1000*x+1=0|x^7-1000*1000*1000*x+1=0", "x^8<2*(22360*x-1)^2", "x^8<2*(22360*x+1)^2", "x^8-x^7=0|x^7-x^6>0",
        "x^2-4*x+3<0|x^2-8*x+15=0|x^2-6*x+5>0", "(3*x-1)^2*(x^2-2)=0|(3*x-1)*(x^2-3)^2<0|9*x^2-6*x+1>0",
        "((x^2-9)^2-40)^2<99", "1000*1000*1000*x=999999999*0+1", "x=1000*1000*1000", "x+1000*1000*1000=0",
        "x^8=1000*1000*1000", "1000*1000*1000*x^8=1", "4*x^2=9&2*x=3", "x^2=x|x^3=x|x^4=x|x^5=x",
        "(x^2+1)^2*(x-1)<0&(x^2+1)*(x^2+x+1)>0", "x^8-x-1=0|x^8-x-1<0|x^8-x-1>0",
        "x^2-10^9*x+1=0|x-10^9<0", "x^8-10^9*x^7-10^9<0|x^8-10^9*x^7+10^9<0", "10^9*x^8-(10^9-1)=0|x=1|x=0-1",
        "(10^9-1)*x^8=10^9|10^9*x^7=10^9-1", "x^8+10^9*x^7+x=0", "(x^2-x)^4=0|(x^2+x)^4>0|(x^3-x)^2<0",
        "(3*x-1)*(2*x-1)*(5*x-3)*(7*x+2)=0|(3*x-1)*(7*x+2)*(x^2-2)<0", "64*x^6-80*x^4+24*x^2-1<0|128*x^8-256*x^6+160*x^4-32*x^2+1>0",
        "(10^9-3906*1000-250)*x^8=10^9*(x^7+x^6+x^5+x^4+x^3+x^2+x)+10^9-1|x<2",
        "x^2-(19213*1000+913)*x=11336*1000+306|x^2-(19213*1000+913)*x=11336*1000+307",
        "x^4-10*x^2+1=0|x^2-5<2|(x^2-5)^2=24&x^3-9*x=0", "x^3-3*x+1=0|x^3-3*x-1=0|x^6-6*x^4+9*x^2-1>0",
    };

    private static void due(String text, String call, long got, long want) {
        asked++;
        if (got != want) {
            wrong++;
            System.out.println("«" + text + "» " + call + " answered " + got + ", due is " + want);
        }
    }

    /** A judge reads several texts before the next one is made: nothing of the earlier ones may stay. */
    private static RootJudge typed(String text) {
        if (texts % 5 == 0) {
            judge = new RootJudge();
        }
        texts++;
        for (int i = 0; i < text.length(); i++) {
            judge.type(text.charAt(i));
        }
        return judge;
    }

    private static void compareFault(String text) {
        RootJudge judge = typed(text);
        Parsed parsed = Parsed.of(text);
        due(text, "load()", judge.load(), parsed.fault);
        due(text, "count(0)", judge.count(0), parsed.fault);
        due(text, "count(1)", judge.count(1), parsed.fault == 0 ? RootJudge.NONE : parsed.place);
        due(text, "count(2)", judge.count(2), 0);
        if (parsed.fault == 0) {
            compareAtoms(text, judge, parsed);
        } else {
            due(text, "count(3)", judge.count(3), RootJudge.BAD);
            due(text, "judge(0)", judge.judge(0), RootJudge.BAD);
            due(text, "atom(0, 0)", judge.atom(0, 0), -2000000000);
        }
    }

    private static void compareAtoms(String text, RootJudge judge, Parsed parsed) {
        due(text, "count(3)", judge.count(3), parsed.polys.size());
        for (int i = 0; i < parsed.polys.size(); i++) {
            Whole poly = parsed.polys.get(i);
            for (int k = 0; k <= 8; k++) {
                due(text, "atom(" + i + ", " + k + ")", judge.atom(i, k), poly.at(k).longValue());
            }
            due(text, "atom(" + i + ", 9)", judge.atom(i, 9), poly.degree() < 0 ? -2 : poly.degree());
            due(text, "atom(" + i + ", 10)", judge.atom(i, 10), parsed.rels.get(i));
        }
    }

    private static void compare(String text, Random random) {
        compareFault(text);
        Parsed parsed = Parsed.of(text);
        if (parsed.fault != 0) {
            return;
        }
        RootJudge judge = typed(text);
        judge.load();
        Slow slow = new Slow(parsed);
        int m = slow.roots.size();
        due(text, "count(4)", judge.count(4), m);
        if (judge.count(4) != m) {
            return;
        }
        compareCells(text, judge, parsed, slow);
        compareRoots(text, judge, parsed, slow);
        comparePoints(text, judge, parsed, slow, random);
    }

    private static void compareCells(String text, RootJudge judge, Parsed parsed, Slow slow) {
        int cells = 2 * slow.roots.size() + 1;
        boolean[] held = new boolean[cells];
        int holding = 0;
        int pieces = 0;
        int first = -2;
        int last = -2;
        for (int cell = 0; cell < cells; cell++) {
            int[] signs = slow.signs(cell);
            for (int i = 0; i < signs.length; i++) {
                due(text, "sign(" + cell + ", " + i + ")", judge.sign(cell, i), signs[i]);
            }
            held[cell] = parsed.formula.holds(signs, parsed.rels);
            due(text, "holds(" + cell + ")", judge.holds(cell), held[cell] ? 1 : 0);
            if (held[cell]) {
                holding++;
                first = first < 0 ? cell : first;
                last = cell;
                pieces += cell == 0 || !held[cell - 1] ? 1 : 0;
            }
            long[] simple = slow.simple(cell);
            due(text, "simple(" + cell + ", 0)", judge.simple(cell, 0), simple[0]);
            due(text, "simple(" + cell + ", 1)", judge.simple(cell, 1), simple[1]);
        }
        due(text, "count(5)", judge.count(5), holding);
        int[] verdicts = {holding > 0 ? 1 : 0, holding == cells ? 1 : 0, first, last, pieces,
            holding > 0 && first % 2 == 1 ? 1 : 0, holding > 0 && last % 2 == 1 ? 1 : 0,
            held[0] ? 1 : 0, held[cells - 1] ? 1 : 0, RootJudge.BAD};
        for (int what = 0; what < verdicts.length; what++) {
            due(text, "judge(" + what + ")", judge.judge(what), verdicts[what]);
        }
    }

    private static void compareRoots(String text, RootJudge judge, Parsed parsed, Slow slow) {
        int atoms = parsed.polys.size();
        int[] real = new int[atoms];
        for (int k = 0; k < slow.roots.size(); k++) {
            for (int n = 0; n <= 8; n++) {
                due(text, "root(" + k + ", " + n + ")", judge.root(k, n), slow.floor(k, BigInteger.TEN.pow(n)).longValue());
            }
            BigInteger[] exact = slow.exact(k);
            due(text, "exact(" + k + ", 0)", judge.exact(k, 0), exact == null ? FAR - 2 : exact[0].longValue());
            due(text, "exact(" + k + ", 1)", judge.exact(k, 1), exact == null ? FAR - 2 : exact[1].longValue());
            due(text, "common(" + k + ")", judge.common(k), slow.common(k));
            for (int i = 0; i < atoms; i++) {
                int times = slow.times(k, i);
                real[i] += times > 0 ? 1 : 0;
                due(text, "times(" + k + ", " + i + ")", judge.times(k, i), times);
            }
        }
        for (int i = 0; i < atoms; i++) {
            int all = Math.max(0, parsed.polys.get(i).squarefree().degree());
            due(text, "atom(" + i + ", 11)", judge.atom(i, 11), real[i]);
            due(text, "atom(" + i + ", 12)", judge.atom(i, 12), all - real[i]);
        }
    }

    private static void comparePoints(String text, RootJudge judge, Parsed parsed, Slow slow, Random random) {
        for (int turn = 0; turn < 12 + 4 * slow.roots.size(); turn++) {
            int below = 1 + random.nextInt(turn % 3 == 0 ? 10 : turn % 3 == 1 ? 3000 : 1000000000);
            int above = random.nextInt(turn % 3 == 0 ? 100 : 2000000001) - (turn % 3 == 0 ? 50 : 1000000000);
            if (turn >= 12) {
                BigInteger near = slow.floor((turn - 12) / 4, BigInteger.valueOf(below)).add(BigInteger.valueOf(turn % 2));
                if (near.abs().compareTo(BigInteger.valueOf(1000000000)) > 0) {
                    continue;
                }
                above = near.intValue();
            }
            due(text, "cellOf(" + above + ", " + below + ")", judge.cellOf(above, below),
                slow.cellOf(BigInteger.valueOf(above), BigInteger.valueOf(below)));
            for (int i = 0; i < parsed.polys.size(); i++) {
                due(text, "signAt(" + i + ", " + above + ", " + below + ")", judge.signAt(i, above, below),
                    parsed.polys.get(i).signAt(BigInteger.valueOf(above), BigInteger.valueOf(below)));
            }
        }
    }

    /** Texts of several kinds. */
    private static final class Texts {
        static String sums(Random random) {
            StringBuilder out = new StringBuilder();
            text(out, random, 2);
            return out.length() <= 400 ? out.toString() : "x=1";
        }

        private static void text(StringBuilder out, Random random, int depth) {
            int parts = 1 + random.nextInt(3);
            for (int i = 0; i < parts; i++) {
                if (i > 0) {
                    out.append(random.nextBoolean() ? "|" : " & ");
                }
                for (int nots = random.nextInt(3); nots > 0; nots--) {
                    out.append('~');
                }
                if (depth > 0 && random.nextInt(3) == 0) {
                    out.append('[');
                    text(out, random, depth - 1);
                    out.append(']');
                } else {
                    sum(out, random, 2);
                    out.append("=<>".charAt(random.nextInt(3)));
                    sum(out, random, 1);
                }
            }
        }

        private static void sum(StringBuilder out, Random random, int depth) {
            if (random.nextInt(4) == 0) {
                out.append('-');
            }
            int terms = 1 + random.nextInt(3);
            for (int i = 0; i < terms; i++) {
                if (i > 0) {
                    out.append(random.nextBoolean() ? "+" : "-");
                }
                int powers = 1 + random.nextInt(2);
                for (int j = 0; j < powers; j++) {
                    out.append(j > 0 ? "*" : "");
                    int kind = random.nextInt(depth > 0 ? 5 : 4);
                    if (kind == 4) {
                        out.append('(');
                        sum(out, random, depth - 1);
                        out.append(')');
                    } else {
                        out.append(kind < 2 ? "x" : String.valueOf(random.nextInt(kind == 2 ? 12 : 999)));
                    }
                    if (random.nextInt(3) == 0) {
                        out.append('^').append(random.nextInt(4));
                    }
                }
            }
        }

        private static final String[] FACTORS = {"x", "(x-1)", "(x+2)", "(2*x-3)", "(3*x+1)", "(x^2-2)", "(x^2-3)",
            "(x^2+1)", "(x^2-x-1)", "(x^3-2)", "(x^2+x+1)", "(7*x-5)", "(x^3-3*x+1)", "(5*x^2-1)", "(x-31622)", "(999*x-1)"};

        static String products(Random random) {
            StringBuilder out = new StringBuilder();
            int atoms = 1 + random.nextInt(4);
            for (int i = 0; i < atoms; i++) {
                out.append(i == 0 ? "" : random.nextBoolean() ? "|" : "&").append(random.nextInt(3) == 0 ? "~" : "");
                int parts = 1 + random.nextInt(3);
                for (int j = 0; j < parts; j++) {
                    out.append(j > 0 ? "*" : "").append(FACTORS[random.nextInt(FACTORS.length)]);
                    if (random.nextInt(3) == 0) {
                        out.append('^').append(1 + random.nextInt(3));
                    }
                }
                out.append("=<>".charAt(random.nextInt(3))).append('0');
            }
            return out.toString();
        }

        static String close(Random random) {
            String text = closeAboveZero(random);
            return random.nextBoolean() ? text : text.replace("x", "(-x)");
        }

        private static String closeAboveZero(Random random) {
            int a = 2 + random.nextInt(random.nextBoolean() ? 22000 : 60);
            int b = 1 + random.nextInt(9);
            int d = 3 + random.nextInt(4);
            int p = 1 + random.nextInt(3000);
            int q = 1 + random.nextInt(3000);
            switch (random.nextInt(6)) {
                case 0:
                    return "x^" + d + "-" + b + "*(" + a + "*x-1)^2=0|" + a + "*x>1";
                case 1:
                    return "x^" + (d + 1) + "-" + a + "*" + a + "*x+1<0&x^" + d + "-" + a + "*" + a + "*x+1=0";
                case 2:
                    return "(" + a + "*x-" + b + ")^2=" + b + "|x*" + a + ">" + b;
                case 3:
                    return q + "*x-" + p + "=0|" + (q + 1) + "*x>" + p + "|" + q + "*x^2<" + p;
                case 4:
                    return "x^2=" + p + "|x^2<" + (p + 1) + "&x^3=" + p + "*x";
                default:
                    return "(x-" + b + ")*(x-" + b + "-1)*(" + a + "*x^2-1)-" + "1=0|x^2*" + a + "=1";
            }
        }

        /** Factors up to 1,000,000,000. */
        static String large(Random random) {
            StringBuilder out = new StringBuilder();
            int atoms = 1 + random.nextInt(2);
            for (int i = 0; i < atoms; i++) {
                out.append(i == 0 ? "" : "|");
                for (int k = 1 + random.nextInt(8); k >= 0; k--) {
                    if (random.nextInt(4) > 0) {
                        out.append(random.nextBoolean() ? "-" : out.length() > 0 && out.charAt(out.length() - 1) != '|' ? "+" : "");
                        out.append(random.nextInt(31623)).append('*').append(random.nextInt(31623)).append("*x^").append(k);
                    }
                }
                if (out.length() == 0 || out.charAt(out.length() - 1) == '|') {
                    out.append("x");
                }
                out.append("=<>".charAt(random.nextInt(3))).append(random.nextInt(1000000));
            }
            return out.toString();
        }

        /** Up to eight real roots an atom. */
        static String many(Random random) {
            StringBuilder out = new StringBuilder();
            int atoms = 1 + random.nextInt(4);
            for (int i = 0; i < atoms; i++) {
                int a = 1 + random.nextInt(12);
                int b = random.nextInt(a * a);
                int c = random.nextInt(Math.min(30000, b * b + 1));
                out.append(i == 0 ? "" : "&").append("((x").append(random.nextBoolean() ? "" : "-" + random.nextInt(3)).append("^2-");
                out.append(a).append(")^2-").append(b).append(")^2").append("=<>".charAt(random.nextInt(3))).append(c);
            }
            return out.toString();
        }

        /** Roots that differ only some two hundred binary digits behind the point. */
        static String neighbours(Random random) {
            StringBuilder out = new StringBuilder();
            int a = 20000 + random.nextInt(11000);
            int b = 20000 + random.nextInt(11000);
            int atoms = 2 + random.nextInt(4);
            for (int i = 0; i < atoms; i++) {
                out.append(i == 0 ? "" : "|");
                if (random.nextInt(5) == 0) {
                    out.append(a).append('*').append(b).append("*x=1");
                } else {
                    out.append(random.nextBoolean() ? "" : "-").append(1 + random.nextInt(3)).append("*x^").append(7 + random.nextInt(2));
                    out.append(random.nextInt(3) == 0 ? "+x^6" : "").append("-").append(a).append('*').append(b).append("*x+1<0");
                }
            }
            return out.toString();
        }

        /** Roots far from 0, close to whole numbers and to one another. */
        static String far(Random random) {
            int n = 2 + random.nextInt(3);
            int a = 1 + random.nextInt(31622);
            int b = 1 + random.nextInt(31622);
            int c = random.nextInt(31622);
            int d = random.nextInt(random.nextBoolean() ? 4 : 31622);
            String first = "x^" + n + (random.nextBoolean() ? "-" : "+") + a + "*" + b + "*x^" + (n - 1);
            String second = (random.nextBoolean() ? "-" : "+") + c + "*" + d;
            String more = (random.nextBoolean() ? "-" : "+") + (1 + random.nextInt(3));
            return first + second + "=0|" + first + second + more + "<0";
        }

        static String spoilt(Random random) {
            StringBuilder out = new StringBuilder(random.nextBoolean() ? sums(random) : products(random));
            for (int turns = random.nextInt(4); turns > 0 && out.length() > 0; turns--) {
                int at = random.nextInt(out.length());
                String signs = "x()[]|&~=<>+-*^0123456789 $yX{^*(";
                char sign = signs.charAt(random.nextInt(signs.length()));
                switch (random.nextInt(4)) {
                    case 0:
                        out.deleteCharAt(at);
                        break;
                    case 1:
                        out.setCharAt(at, sign);
                        break;
                    case 2:
                        out.insert(at, sign);
                        break;
                    default:
                        out.insert(at, String.valueOf(sign).repeat(1 + random.nextInt(12)));
                }
            }
            return out.length() <= 400 ? out.toString() : "x=1";
        }

        static String noise(Random random) {
            String signs = "xxx((())[]|&~=<>+-*^^1239 ";
            StringBuilder out = new StringBuilder();
            for (int n = random.nextInt(14); n > 0; n--) {
                out.append(signs.charAt(random.nextInt(signs.length())));
            }
            return out.toString();
        }
    }

    /** A polynomial of BigInteger, the lowest factor first, without leading zeros. */
    private static final class Whole {
        final BigInteger[] c;

        Whole(BigInteger... factors) {
            int n = factors.length;
            while (n > 0 && factors[n - 1].signum() == 0) {
                n--;
            }
            c = java.util.Arrays.copyOf(factors, n);
        }

        static Whole constant(long v) {
            return new Whole(BigInteger.valueOf(v));
        }

        int degree() {
            return c.length - 1;
        }

        BigInteger at(int k) {
            return k < c.length ? c[k] : BigInteger.ZERO;
        }

        BigInteger lead() {
            return c[c.length - 1];
        }

        Whole plus(Whole o, int way) {
            BigInteger[] r = new BigInteger[Math.max(c.length, o.c.length)];
            for (int i = 0; i < r.length; i++) {
                r[i] = way > 0 ? at(i).add(o.at(i)) : at(i).subtract(o.at(i));
            }
            return new Whole(r);
        }

        Whole times(Whole o) {
            if (degree() < 0 || o.degree() < 0) {
                return new Whole();
            }
            BigInteger[] r = new BigInteger[c.length + o.c.length - 1];
            java.util.Arrays.fill(r, BigInteger.ZERO);
            for (int i = 0; i < c.length; i++) {
                for (int j = 0; j < o.c.length; j++) {
                    r[i + j] = r[i + j].add(c[i].multiply(o.c[j]));
                }
            }
            return new Whole(r);
        }

        boolean fits() {
            for (BigInteger v : c) {
                if (v.abs().compareTo(BigInteger.valueOf(1000000000)) > 0) {
                    return false;
                }
            }
            return degree() <= 8;
        }

        Whole slope() {
            BigInteger[] r = new BigInteger[Math.max(0, c.length - 1)];
            for (int i = 0; i < r.length; i++) {
                r[i] = c[i + 1].multiply(BigInteger.valueOf(i + 1));
            }
            return new Whole(r);
        }

        Whole primitive() {
            BigInteger share = BigInteger.ZERO;
            for (BigInteger v : c) {
                share = share.gcd(v);
            }
            BigInteger[] r = c.clone();
            for (int i = 0; i < r.length; i++) {
                r[i] = r[i].divide(share);
            }
            return new Whole(r);
        }

        /** A positive multiple of the remainder, without content. */
        Whole remainder(Whole o) {
            Whole r = this;
            while (r.degree() >= o.degree() && r.degree() >= 0) {
                BigInteger[] shift = new BigInteger[r.degree() - o.degree() + 1];
                java.util.Arrays.fill(shift, BigInteger.ZERO);
                shift[shift.length - 1] = r.lead().multiply(BigInteger.valueOf(o.lead().signum()));
                r = r.times(new Whole(o.lead().abs())).plus(o.times(new Whole(shift)), -1);
                r = r.primitive();
            }
            return r;
        }

        Whole gcd(Whole o) {
            Whole a = this;
            Whole b = o;
            while (b.degree() >= 0) {
                Whole r = a.remainder(b);
                a = b;
                b = r;
            }
            return a.primitive();
        }

        /** The exact quotient by a divisor over the fractions, without content. */
        Whole over(Whole o) {
            Whole r = this;
            BigInteger scale = o.lead().abs().pow(degree() - o.degree() + 1);
            r = r.times(new Whole(scale));
            BigInteger[] q = new BigInteger[degree() - o.degree() + 1];
            for (int i = q.length - 1; i >= 0; i--) {
                q[i] = r.at(i + o.degree()).divide(o.lead());
                BigInteger[] shift = new BigInteger[i + 1];
                java.util.Arrays.fill(shift, BigInteger.ZERO);
                shift[i] = q[i];
                r = r.plus(o.times(new Whole(shift)), -1);
            }
            if (r.degree() >= 0) {
                throw new IllegalStateException("no divisor");
            }
            return new Whole(q).primitive();
        }

        Whole squarefree() {
            return degree() < 1 ? this : over(gcd(slope()));
        }

        int signAt(BigInteger above, BigInteger below) {
            BigInteger v = BigInteger.ZERO;
            for (int i = degree(); i >= 0; i--) {
                v = v.multiply(above).add(c[i].multiply(below.pow(degree() - i)));
            }
            return v.signum();
        }
    }

    /** Sturm's chain of a squarefree polynomial: counts roots between fractions. */
    private static final class Chain {
        final List<Whole> links = new ArrayList<>();

        Chain(Whole poly) {
            Whole a = poly;
            Whole b = poly.slope();
            links.add(a);
            while (b.degree() >= 0) {
                links.add(b);
                Whole r = a.remainder(b);
                a = b;
                b = new Whole().plus(r, -1);
            }
        }

        int changes(BigInteger above, BigInteger below) {
            int changes = 0;
            int last = 0;
            for (Whole link : links) {
                int sign = link.signAt(above, below);
                changes += sign * last < 0 ? 1 : 0;
                last = sign != 0 ? sign : last;
            }
            return changes;
        }

        /** Roots above lo and not above hi. */
        int between(BigInteger lo, BigInteger hi, BigInteger below) {
            return changes(lo, below) - changes(hi, below);
        }
    }

    /** Roots as half open intervals ]lo, lo + 1] over 2 to the power bits. */
    private static final class Slow {
        final Parsed parsed;
        final Whole all;
        final Chain chain;
        final List<BigInteger[]> roots = new ArrayList<>();
        final List<List<Chain>> levels = new ArrayList<>();
        final int[][] times;

        Slow(Parsed parsed) {
            this.parsed = parsed;
            Whole product = Whole.constant(1);
            for (Whole poly : parsed.polys) {
                if (poly.degree() > 0) {
                    Whole free = poly.squarefree();
                    product = product.times(free.over(free.gcd(product)));
                }
            }
            all = product;
            chain = new Chain(product);
            if (all.degree() > 0) {
                search(BigInteger.ONE.shiftLeft(32).negate(), BigInteger.ONE.shiftLeft(32), 0);
            }
            times = new int[roots.size()][parsed.polys.size()];
            for (int i = 0; i < parsed.polys.size(); i++) {
                fillTimes(i);
            }
        }

        private void search(BigInteger lo, BigInteger hi, int bits) {
            int n = chain.between(lo, hi, BigInteger.ONE.shiftLeft(bits));
            if (n == 0) {
                return;
            }
            if (n == 1 && hi.subtract(lo).equals(BigInteger.ONE)) {
                roots.add(new BigInteger[] {lo, BigInteger.valueOf(bits)});
                return;
            }
            int finer = hi.subtract(lo).equals(BigInteger.ONE) ? 1 : 0;
            BigInteger a = lo.shiftLeft(finer);
            BigInteger b = hi.shiftLeft(finer);
            BigInteger mid = a.add(b).shiftRight(1);
            search(a, mid, bits + finer);
            search(mid, b, bits + finer);
        }

        private void fillTimes(int atom) {
            Whole poly = parsed.polys.get(atom);
            if (poly.degree() < 0) {
                for (int[] row : times) {
                    row[atom] = RootJudge.NONE;
                }
                return;
            }
            Whole rest = poly;
            while (rest.degree() > 0) {
                Chain here = new Chain(rest.squarefree());
                for (int k = 0; k < roots.size(); k++) {
                    BigInteger[] root = roots.get(k);
                    BigInteger below = BigInteger.ONE.shiftLeft(root[1].intValue());
                    times[k][atom] += here.between(root[0], root[0].add(BigInteger.ONE), below);
                }
                rest = rest.gcd(rest.slope());
            }
        }

        int times(int k, int atom) {
            return times[k][atom];
        }

        void halve(int k) {
            BigInteger[] root = roots.get(k);
            int bits = root[1].intValue() + 1;
            BigInteger lo = root[0].shiftLeft(1);
            BigInteger mid = lo.add(BigInteger.ONE);
            BigInteger below = BigInteger.ONE.shiftLeft(bits);
            int sign = all.signAt(mid, below);
            boolean right = sign != 0 && sign * signRightOf(k) < 0;
            root[0] = right ? mid : lo;
            root[1] = BigInteger.valueOf(bits);
        }

        /** The sign just above a root: that of the lead, turned once for each root further up. */
        private int signRightOf(int k) {
            return (roots.size() - 1 - k) % 2 == 0 ? all.lead().signum() : -all.lead().signum();
        }

        /** The sign of root k less above / below, by the sign of the product or by counting. */
        int compare(int k, BigInteger above, BigInteger below) {
            BigInteger[] root = roots.get(k);
            BigInteger lo = root[0].multiply(below);
            BigInteger point = above.shiftLeft(root[1].intValue());
            if (point.compareTo(lo) <= 0) {
                return 1;
            }
            if (point.compareTo(lo.add(below)) > 0) {
                return -1;
            }
            int sign = all.signAt(above, below);
            return sign == 0 ? 0 : sign == signRightOf(k) ? -1 : 1;
        }

        BigInteger floor(int k, BigInteger scale) {
            BigInteger[] root = roots.get(k);
            while (root[1].intValue() < scale.bitLength()) {
                halve(k);
            }
            BigInteger lo = root[0].multiply(scale).shiftRight(root[1].intValue());
            while (compare(k, lo.add(BigInteger.ONE), scale) >= 0) {
                lo = lo.add(BigInteger.ONE);
            }
            return lo;
        }

        BigInteger[] exact(int k) {
            BigInteger lead = all.lead().abs();
            BigInteger whole = floor(k, lead);
            if (compare(k, whole, lead) != 0) {
                return null;
            }
            BigInteger share = whole.gcd(lead);
            return new BigInteger[] {whole.divide(share), lead.divide(share)};
        }

        int common(int k) {
            Whole shared = new Whole();
            for (int i = 0; i < parsed.polys.size(); i++) {
                if (times[k][i] > 0) {
                    shared = parsed.polys.get(i).squarefree().gcd(shared);
                }
            }
            return shared.degree();
        }

        int cellOf(BigInteger above, BigInteger below) {
            for (int k = 0; k < roots.size(); k++) {
                int way = compare(k, above, below);
                if (way >= 0) {
                    return way == 0 ? 2 * k + 1 : 2 * k;
                }
            }
            return 2 * roots.size();
        }

        /** Signs are taken at a point within the cell, or by counting roots at it. */
        int[] signs(int cell) {
            int n = parsed.polys.size();
            int[] signs = new int[n];
            int k = cell / 2;
            for (int i = 0; i < n; i++) {
                Whole poly = parsed.polys.get(i);
                if (poly.degree() < 0 || cell % 2 == 1 && times[k][i] > 0) {
                    continue;
                }
                BigInteger[] point = cell % 2 == 1 ? nearPoint(k, poly) : innerPoint(cell);
                signs[i] = poly.signAt(point[0], point[1]);
            }
            return signs;
        }

        /** A point so close to root k that the polynomial, not 0 there, has no root in between. */
        private BigInteger[] nearPoint(int k, Whole poly) {
            Chain here = new Chain(poly.squarefree());
            while (true) {
                BigInteger[] root = roots.get(k);
                BigInteger below = BigInteger.ONE.shiftLeft(root[1].intValue());
                BigInteger hi = root[0].add(BigInteger.ONE);
                if (here.between(root[0], hi, below) == 0) {
                    return new BigInteger[] {hi, below};
                }
                halve(k);
            }
        }

        private BigInteger[] innerPoint(int cell) {
            int k = cell / 2;
            if (roots.isEmpty()) {
                return new BigInteger[] {BigInteger.ZERO, BigInteger.ONE};
            }
            int bits = 1;
            while (true) {
                int at = Math.max(0, k - 1);
                BigInteger[] root = roots.get(at);
                int finer = Math.max(bits, root[1].intValue());
                BigInteger below = BigInteger.ONE.shiftLeft(finer);
                BigInteger point = floor(at, below).add(k == 0 ? BigInteger.ONE.negate() : BigInteger.ONE);
                if (cellOf(point, below) == cell) {
                    return new BigInteger[] {point, below};
                }
                bits += 4;
            }
        }

        long[] simple(int cell) {
            int k = cell / 2;
            if (cell % 2 == 1) {
                BigInteger[] exact = exact(k);
                if (exact == null) {
                    return new long[] {FAR - 2, FAR - 2};
                }
                boolean great = exact[1].compareTo(BigInteger.valueOf(2000)) > 0;
                return great ? new long[] {FAR - 3, FAR - 3} : new long[] {exact[0].longValue(), exact[1].longValue()};
            }
            for (int q = 1; q <= 2000; q++) {
                BigInteger below = BigInteger.valueOf(q);
                if (cellOf(BigInteger.ZERO, below) == cell) {
                    return new long[] {0, 1};
                }
                BigInteger up = k > 0 ? floor(k - 1, below).add(BigInteger.ONE) : null;
                BigInteger down = null;
                if (k < roots.size()) {
                    down = floor(k, below);
                    down = compare(k, down, below) == 0 ? down.subtract(BigInteger.ONE) : down;
                }
                BigInteger pick = up != null && up.signum() > 0 ? up : down;
                if (pick != null && cellOf(pick, below) == cell) {
                    return new long[] {pick.longValue(), q};
                }
            }
            return new long[] {FAR - 3, FAR - 3};
        }
    }

    /** A formula as a tree. */
    private static final class Formula {
        final char kind;
        final int atom;
        final Formula a;
        final Formula b;

        Formula(char kind, int atom, Formula a, Formula b) {
            this.kind = kind;
            this.atom = atom;
            this.a = a;
            this.b = b;
        }

        boolean holds(int[] signs, List<Integer> rels) {
            switch (kind) {
                case '|':
                    return a.holds(signs, rels) | b.holds(signs, rels);
                case '&':
                    return a.holds(signs, rels) & b.holds(signs, rels);
                case '~':
                    return !a.holds(signs, rels);
                default:
                    int rel = rels.get(atom);
                    return rel == 0 ? signs[atom] == 0 : rel == 1 ? signs[atom] < 0 : signs[atom] > 0;
            }
        }
    }

    private static final class Fault extends RuntimeException {
        private static final long serialVersionUID = 1L;
        final int kind;
        final int place;

        Fault(int kind, int place) {
            this.kind = kind;
            this.place = place;
        }
    }

    /** The text read by rules that throw the first fault. */
    private static final class Parsed {
        final List<Whole> polys = new ArrayList<>();
        final List<Integer> rels = new ArrayList<>();
        Formula formula;
        int fault;
        int place;
        private final String text;
        private int at;

        private Parsed(String text) {
            this.text = text;
        }

        static Parsed of(String text) {
            Parsed parsed = new Parsed(text);
            try {
                parsed.formula = parsed.text(0);
                if (parsed.peek() != 0) {
                    throw new Fault(2, parsed.at);
                }
            } catch (Fault e) {
                parsed.fault = e.kind;
                parsed.place = e.place;
            }
            return parsed;
        }

        private char peek() {
            while (at < text.length() && text.charAt(at) == ' ') {
                at++;
            }
            if (at == text.length()) {
                return 0;
            }
            char c = text.charAt(at);
            if ("0123456789x()[]|&~=<>+-*^".indexOf(c) < 0) {
                throw new Fault(1, at);
            }
            return c;
        }

        private boolean took(char c) {
            if (peek() != c) {
                return false;
            }
            at++;
            return true;
        }

        private void need(char c) {
            if (!took(c)) {
                throw new Fault(2, at);
            }
        }

        private Formula text(int depth) {
            Formula f = all(depth);
            while (took('|')) {
                f = new Formula('|', 0, f, all(depth));
            }
            return f;
        }

        private Formula all(int depth) {
            Formula f = one(depth, 0);
            while (took('&')) {
                f = new Formula('&', 0, f, one(depth, 0));
            }
            return f;
        }

        private Formula one(int depth, int nots) {
            char c = peek();
            if (c == '~') {
                if (nots == 10) {
                    throw new Fault(3, at);
                }
                at++;
                return new Formula('~', 0, one(depth, nots + 1), null);
            }
            if (c == '[') {
                if (depth == 10) {
                    throw new Fault(3, at);
                }
                at++;
                Formula f = text(depth + 1);
                need(']');
                return f;
            }
            Whole left = sum(0);
            char rel = peek();
            int where = at;
            if ("=<>".indexOf(rel) < 0 || rel == 0) {
                throw new Fault(2, at);
            }
            if (polys.size() == 10) {
                throw new Fault(3, at);
            }
            at++;
            Whole right = sum(0);
            polys.add(made(left.plus(right, -1), where));
            rels.add("=<>".indexOf(rel));
            return new Formula('a', polys.size() - 1, null, null);
        }

        /** Made only after the sign behind was looked at. */
        private Whole made(Whole poly, int where) {
            peek();
            if (!poly.fits()) {
                throw new Fault(3, where);
            }
            return poly;
        }

        private Whole sum(int depth) {
            boolean minus = took('-');
            Whole sum = term(depth);
            sum = minus ? new Whole().plus(sum, -1) : sum;
            for (char c = peek(); c == '+' || c == '-'; c = peek()) {
                int where = at;
                at++;
                sum = made(sum.plus(term(depth), c == '+' ? 1 : -1), where);
            }
            return sum;
        }

        private Whole term(int depth) {
            Whole term = power(depth);
            while (peek() == '*') {
                int where = at;
                at++;
                term = made(term.times(power(depth)), where);
            }
            return term;
        }

        private Whole power(int depth) {
            Whole base = base(depth);
            if (peek() != '^') {
                return base;
            }
            int where = at;
            at++;
            int n = number();
            peek();
            Whole power = Whole.constant(1);
            for (int i = 0; i < n; i++) {
                power = made(power.times(base), where);
            }
            return power;
        }

        private Whole base(int depth) {
            char c = peek();
            if (c == 'x') {
                at++;
                return new Whole(BigInteger.ZERO, BigInteger.ONE);
            }
            if (c == '(') {
                if (depth == 10) {
                    throw new Fault(3, at);
                }
                at++;
                Whole sum = sum(depth + 1);
                need(')');
                return sum;
            }
            return Whole.constant(number());
        }

        private int number() {
            char c = peek();
            if (c < '0' || c > '9') {
                throw new Fault(2, at);
            }
            int n = 0;
            for (int digits = 0; at < text.length() && Character.isDigit(text.charAt(at)); digits++) {
                if (digits == 6) {
                    throw new Fault(1, at);
                }
                n = 10 * n + text.charAt(at) - '0';
                at++;
            }
            return n;
        }
    }
}
