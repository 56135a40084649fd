/**
 * A judge of sentences about one real number. The text is read into atoms and a small program; the
 * atoms' polynomials are broken into pairwise coprime pieces, so that every root belongs to exactly one
 * piece; roots are then kept as exact fractions or as binary intervals that can be narrowed at will.
 */
public final class RootJudge {
    public static final int BAD = -1, NONE = -2, GREAT = -3;

    private static final int ROOM = 400;
    private static final int MOST_ATOMS = 10;
    private static final int MOST_ROOTS = 80;
    private static final int HIGHEST = 8;
    private static final long LARGEST = 1000000000L;
    private static final int BAD_ATOM = -2000000000;
    private static final int BAD_SIGN = -2;
    private static final long FAR = -9000000000000000000L;

    private int signs;
    private int fault;
    private int place;
    private boolean known;
    private final Line line;
    private final Reader reader;
    private final Finder finder;
    private final Basis basis;

    public RootJudge() {
        place = NONE;
        line = new Line();
        reader = line.reader;
        finder = line.finder;
        basis = line.basis;
    }

    public int type(int c) {
        if (!isSign(c) || signs >= ROOM) {
            return BAD;
        }
        reader.text[signs] = (char) c;
        signs++;
        return signs;
    }

    public int four(int signs) {
        int coming = 0;
        for (int shift = 24; shift >= 0; shift -= 8) {
            int c = (signs >>> shift) & 255;
            if (c != 0 && !isSign(c)) {
                return BAD;
            }
            coming += c != 0 ? 1 : 0;
        }
        if (this.signs + coming > ROOM) {
            return BAD;
        }
        for (int shift = 24; shift >= 0; shift -= 8) {
            int c = (signs >>> shift) & 255;
            if (c != 0 && this.signs < ROOM) {
                reader.text[this.signs] = (char) c;
                this.signs++;
            }
        }
        return this.signs;
    }

    public int load() {
        int length = signs;
        signs = 0;
        fault = reader.read(length);
        place = fault == 0 ? NONE : reader.place;
        known = fault == 0;
        if (!known) {
            return fault;
        }
        basis.size = 0;
        for (int i = 0; i < reader.atoms; i++) {
            basis.addAtom(reader.polys[i], i);
        }
        finder.found = 0;
        int pieces = basis.size;
        for (int e = 0; e < pieces; e++) {
            finder.solve(e);
        }
        line.size = 0;
        for (int i = 0; i < finder.found; i++) {
            line.insert(i);
        }
        line.fillCells();
        return fault;
    }

    public int count(int what) {
        if (what == 0) {
            return fault;
        }
        if (what == 1) {
            return place;
        }
        if (what == 2) {
            return signs;
        }
        if (!known) {
            return BAD;
        }
        if (what == 3) {
            return reader.atoms;
        }
        if (what == 4) {
            return line.size;
        }
        return what == 5 ? line.holding : BAD;
    }

    public int atom(int i, int k) {
        if (!isAtom(i) || k < 0 || k > 12) {
            return BAD_ATOM;
        }
        Poly poly = reader.polys[i];
        if (k <= HIGHEST) {
            return (int) poly.factors[k];
        }
        if (k == 9) {
            return poly.degree < 0 ? NONE : poly.degree;
        }
        if (k == 10) {
            return reader.rels[i];
        }
        int real = line.rootsOf(i);
        return k == 11 ? real : basis.distinctRoots(i) - real;
    }

    public int judge(int what) {
        if (!known) {
            return BAD;
        }
        int last = 2 * line.size;
        switch (what) {
            case 0:
                return line.holding > 0 ? 1 : 0;
            case 1:
                return line.holding == last + 1 ? 1 : 0;
            case 2:
                return line.first;
            case 3:
                return line.last;
            case 4:
                return line.pieces;
            case 5:
                return line.first >= 0 && line.first % 2 == 1 ? 1 : 0;
            case 6:
                return line.last >= 0 && line.last % 2 == 1 ? 1 : 0;
            case 7:
                return line.first == 0 ? 1 : 0;
            case 8:
                return line.last == last ? 1 : 0;
            default:
                return BAD;
        }
    }

    public int holds(int cell) {
        if (!isCell(cell)) {
            return BAD;
        }
        return line.held[cell] ? 1 : 0;
    }

    public int sign(int cell, int atom) {
        if (!isCell(cell) || !isAtom(atom)) {
            return BAD_SIGN;
        }
        return line.signs[cell * MOST_ATOMS + atom];
    }

    public long root(int k, int n) {
        if (!isRoot(k) || n < 0 || n > 8) {
            return FAR;
        }
        long scale = 1;
        for (int i = 0; i < n; i++) {
            scale *= 10;
        }
        return finder.scaledFloor(line.rootAt(k), scale);
    }

    public int times(int k, int atom) {
        if (!isRoot(k) || !isAtom(atom)) {
            return BAD;
        }
        if (reader.polys[atom].degree < 0) {
            return NONE;
        }
        return basis.multiplicity(line.rootAt(k).owner, atom);
    }

    public long exact(int k, int what) {
        if (!isRoot(k) || what < 0 || what > 1) {
            return FAR;
        }
        Root found = line.rootAt(k);
        if (!found.fraction) {
            return FAR + NONE;
        }
        return what == 0 ? found.above : found.below;
    }

    public int common(int k) {
        if (!isRoot(k)) {
            return BAD;
        }
        return basis.sharedDegree(line.rootAt(k).owner);
    }

    public long simple(int cell, int what) {
        if (!isCell(cell) || what < 0 || what > 1) {
            return FAR + BAD;
        }
        if (cell % 2 == 0) {
            line.fillBetween(cell);
        } else {
            line.fillAt(cell);
        }
        int below = line.simpleBelow[cell];
        if (below < 0) {
            return FAR + below;
        }
        return what == 0 ? line.simpleAbove[cell] : below;
    }

    public int cellOf(int above, int below) {
        if (!known || !isFraction(above, below)) {
            return BAD;
        }
        return line.locate(Math.floorDiv(above, below), Math.floorMod(above, below), below);
    }

    public int signAt(int atom, int above, int below) {
        if (!isAtom(atom) || !isFraction(above, below)) {
            return BAD_SIGN;
        }
        return finder.signAtFraction(reader.polys[atom], above, below);
    }

    private static boolean isSign(int c) {
        return c >= 32 && c <= 126;
    }

    private static boolean isFraction(int above, int below) {
        return below >= 1 && below <= LARGEST && above >= -LARGEST && above <= LARGEST;
    }

    private boolean isAtom(int i) {
        return known && i >= 0 && i < reader.atoms;
    }

    private boolean isRoot(int k) {
        return known && k >= 0 && k < line.size;
    }

    private boolean isCell(int cell) {
        return known && cell >= 0 && cell <= 2 * line.size;
    }

    /** A polynomial with long factors; its degree is -1 when it is 0 altogether. */
    private static final class Poly {
        private int degree;
        private final long[] factors;

        Poly() {
            factors = new long[HIGHEST + 1];
            degree = -1;
        }

        void setConstant(long value) {
            for (int i = 1; i <= HIGHEST; i++) {
                factors[i] = 0;
            }
            factors[0] = value;
            degree = value != 0 ? 0 : -1;
        }

        void setLinear(long slope, long constant) {
            setConstant(constant);
            factors[1] = slope;
            degree = slope != 0 ? 1 : degree;
        }

        void copy(Poly other) {
            for (int i = 0; i <= HIGHEST; i++) {
                factors[i] = other.factors[i];
            }
            degree = other.degree;
        }

        void measure() {
            degree = -1;
            for (int i = 0; i <= HIGHEST; i++) {
                if (factors[i] != 0) {
                    degree = i;
                }
            }
        }

        long lead() {
            return degree < 0 ? 0 : factors[degree];
        }

        void setSlopeOf(Poly other) {
            for (int i = 0; i < HIGHEST; i++) {
                factors[i] = other.factors[i + 1] * (i + 1);
            }
            factors[HIGHEST] = 0;
            measure();
        }

        /** Pieces are compared by exact division, so each is kept without content and with a positive lead. */
        void makePrimitive() {
            long share = 0;
            for (int i = 0; i <= HIGHEST; i++) {
                share = gcd(share, factors[i]);
            }
            if (lead() < 0) {
                share = -share;
            }
            if (share != 0) {
                for (int i = 0; i <= HIGHEST; i++) {
                    factors[i] /= share;
                }
            }
        }

        static long gcd(long a, long b) {
            long u = Math.abs(a);
            long v = Math.abs(b);
            for (int turn = 0; turn < 200 && v != 0; turn++) {
                long rest = u % v;
                u = v;
                v = rest;
            }
            return u;
        }
    }

    /**
     * Reads the text by descent. After a fault the sign that is looked at becomes STOP, which no rule
     * takes, so that every rule runs out by itself and the first fault stays.
     */
    private static final class Reader {
        private static final int END = 0;
        private static final int STOP = 1;
        private static final int DEEPEST = 10;
        private static final int SLOTS = 26;
        private static final int NOT = 10;
        private static final int AND = 11;
        private static final int OR = 12;
        private static final int STEPS = 160;
        private static final String TOKENS = "x()[]|&~=<>+-*^";
        private static final String RELS = "=<>";

        private final char[] text;
        private int length;
        private int at;
        private int next;
        private int fault;
        private int place;
        private final Poly[] slots;
        private final Poly base;
        private final long[] product;
        private final Poly[] polys;
        private final int[] rels;
        private int atoms;
        private final int[] program;
        private int steps;

        Reader() {
            text = new char[ROOM];
            slots = new Poly[SLOTS];
            for (int i = 0; i < SLOTS; i++) {
                slots[i] = new Poly();
            }
            base = new Poly();
            product = new long[HIGHEST + 1];
            polys = new Poly[MOST_ATOMS];
            for (int i = 0; i < MOST_ATOMS; i++) {
                polys[i] = new Poly();
            }
            rels = new int[MOST_ATOMS];
            program = new int[STEPS];
        }

        int read(int length) {
            this.length = Math.min(length, text.length);
            at = 0;
            fault = 0;
            place = NONE;
            atoms = 0;
            steps = 0;
            look();
            readText(0);
            if (next != END) {
                fail(2, at);
            }
            return fault;
        }

        private void fail(int kind, int where) {
            if (fault == 0) {
                fault = kind;
                place = where;
            }
            next = STOP;
        }

        private void look() {
            while (at < length && text[at] == ' ') {
                at++;
            }
            next = at < length ? text[at] : END;
            if (next != END && !isDigit(next) && TOKENS.indexOf((char) next) < 0) {
                fail(1, at);
            }
        }

        private void step() {
            if (fault == 0) {
                at++;
                look();
            }
        }

        private static boolean isDigit(int c) {
            return c >= '0' && c <= '9';
        }

        private void expect(int token) {
            if (next == token) {
                step();
            } else {
                fail(2, at);
            }
        }

        private void emit(int code) {
            if (steps < STEPS) {
                program[steps] = code;
                steps++;
            }
        }

        private void readText(int depth) {
            readAll(depth);
            for (int turn = 0; turn < ROOM && next == '|'; turn++) {
                step();
                readAll(depth);
                emit(OR);
            }
        }

        private void readAll(int depth) {
            readOne(depth);
            for (int turn = 0; turn < ROOM && next == '&'; turn++) {
                step();
                readOne(depth);
                emit(AND);
            }
        }

        private void readOne(int depth) {
            int nots = 0;
            for (int turn = 0; turn < ROOM && next == '~'; turn++) {
                if (nots >= DEEPEST) {
                    fail(3, at);
                } else {
                    nots++;
                    step();
                }
            }
            if (next != '[') {
                readAtom();
            } else if (depth >= DEEPEST) {
                fail(3, at);
            } else {
                step();
                readText(depth + 1);
                expect(']');
            }
            if (nots % 2 == 1) {
                emit(NOT);
            }
        }

        private void readAtom() {
            readSum(0, 0);
            int rel = RELS.indexOf((char) next);
            int where = at;
            if (rel < 0) {
                fail(2, where);
            } else if (atoms >= MOST_ATOMS) {
                fail(3, where);
            } else {
                step();
                readSum(1, 0);
                addTo(slot(0), slot(1), -1, where);
            }
            if (fault == 0 && atoms < MOST_ATOMS) {
                polys[atoms].copy(slot(0));
                rels[atoms] = rel;
                emit(atoms);
                atoms++;
            }
        }

        /** A rule writes its result to its own slot and may use those above it. */
        private Poly slot(int i) {
            return slots[Math.max(0, Math.min(i, SLOTS - 1))];
        }

        private void readSum(int slot, int depth) {
            int way = next == '-' ? -1 : 1;
            if (way < 0) {
                step();
            }
            readTerm(slot, depth);
            if (way < 0) {
                negate(slot(slot));
            }
            for (int turn = 0; turn < ROOM && (next == '+' || next == '-'); turn++) {
                int where = at;
                way = next == '-' ? -1 : 1;
                step();
                readTerm(slot + 1, depth);
                addTo(slot(slot), slot(slot + 1), way, where);
            }
        }

        private void readTerm(int slot, int depth) {
            readPower(slot, depth);
            for (int turn = 0; turn < ROOM && next == '*'; turn++) {
                int where = at;
                step();
                readPower(slot + 1, depth);
                multiply(slot(slot), slot(slot + 1), where);
            }
        }

        private void readPower(int slot, int depth) {
            readBase(slot, depth);
            if (next == '^') {
                int where = at;
                step();
                int power = readNumber();
                raise(slot(slot), power, where);
            }
        }

        private void readBase(int slot, int depth) {
            if (next == 'x') {
                slot(slot).setLinear(1, 0);
                step();
            } else if (next != '(') {
                slot(slot).setConstant(readNumber());
            } else if (depth >= DEEPEST) {
                fail(3, at);
            } else {
                step();
                readSum(slot, depth + 1);
                expect(')');
            }
        }

        private int readNumber() {
            if (!isDigit(next)) {
                fail(2, at);
                return 0;
            }
            int value = 0;
            int end = Math.min(length, at + 6);
            while (at < end && isDigit(text[at])) {
                value = value * 10 + (text[at] - '0');
                at++;
            }
            if (at < length && isDigit(text[at])) {
                fail(1, at);
            } else {
                look();
            }
            return value;
        }

        private static void negate(Poly poly) {
            for (int i = 0; i <= HIGHEST; i++) {
                poly.factors[i] = -poly.factors[i];
            }
        }

        private void addTo(Poly sum, Poly other, int way, int where) {
            for (int i = 0; i <= HIGHEST; i++) {
                product[i] = sum.factors[i] + way * other.factors[i];
            }
            accept(sum, where);
        }

        private void multiply(Poly first, Poly second, int where) {
            if (first.degree >= 0 && second.degree >= 0 && first.degree + second.degree > HIGHEST) {
                fail(3, where);
                return;
            }
            for (int i = 0; i <= HIGHEST; i++) {
                product[i] = 0;
            }
            for (int i = 0; i <= first.degree; i++) {
                for (int j = 0; j <= second.degree && i + j <= HIGHEST; j++) {
                    product[i + j] += first.factors[i] * second.factors[j];
                }
            }
            accept(first, where);
        }

        private void accept(Poly target, int where) {
            if (fault != 0) {
                return;
            }
            for (int i = 0; i <= HIGHEST; i++) {
                if (Math.abs(product[i]) > LARGEST) {
                    fail(3, where);
                    return;
                }
                target.factors[i] = product[i];
            }
            target.measure();
        }

        private void raise(Poly target, int power, int where) {
            if (fault != 0) {
                return;
            }
            if (power == 0) {
                target.setConstant(1);
                return;
            }
            base.copy(target);
            int turns = power;
            // The powers of 0, 1 and -1 never grow: only whether the power is odd counts.
            if (base.degree <= 0 && Math.abs(base.factors[0]) <= 1) {
                turns = 2 - power % 2;
            }
            for (int i = 1; i < turns && fault == 0; i++) {
                multiply(target, base, where);
            }
        }

        /** Whether the text holds where the atoms of the set bits hold. */
        boolean fulfilledBy(int trueAtoms) {
            long stack = 0;
            for (int i = 0; i < steps; i++) {
                int code = program[i];
                long top = stack & 1;
                if (code < NOT) {
                    stack = (stack << 1) | ((trueAtoms >> code) & 1);
                } else if (code == NOT) {
                    stack ^= 1;
                } else if (code == AND) {
                    stack = (stack >>> 1) & (top | -2L);
                } else {
                    stack = (stack >>> 1) | top;
                }
            }
            return (stack & 1) == 1;
        }
    }

    /**
     * Greatest common divisors of whole polynomials, by their images modulo primes. All divisors that
     * can come up here have factors below 2 to the power 40 (Mignotte's bound), so two primes just under
     * 2 to the power 31 tell them; exact division then proves the guess. There are enough primes for
     * two lucky neighbours among them, whatever the polynomials.
     */
    private static final class Divider {
        private static final int[] PRIMES = {
            2147483647, 2147483629, 2147483587, 2147483579, 2147483563, 2147483549, 2147483543, 2147483497,
            2147483489, 2147483477, 2147483423, 2147483399, 2147483353, 2147483323, 2147483269, 2147483249,
            2147483237, 2147483179, 2147483171, 2147483137, 2147483123, 2147483077, 2147483069, 2147483059,
            2147483053, 2147483033, 2147483029, 2147482951, 2147482949, 2147482943, 2147482937, 2147482921,
            2147482877, 2147482873, 2147482867, 2147482859, 2147482819, 2147482817, 2147482811, 2147482801,
            2147482763, 2147482739, 2147482697, 2147482693
        };
        private static final long SAFE = 1L << 58;

        private final long[] upper;
        private final long[] lower;
        private final long[] rest;
        private long[] image;
        private long[] earlier;
        private final Poly guess;
        private final Poly divisor;
        private final Poly quotient;

        Divider() {
            upper = new long[HIGHEST + 1];
            lower = new long[HIGHEST + 1];
            rest = new long[HIGHEST + 1];
            image = new long[HIGHEST + 1];
            earlier = new long[HIGHEST + 1];
            guess = new Poly();
            divisor = new Poly();
            quotient = new Poly();
        }

        /** Puts the greatest common divisor of two polynomials that are not 0 into divisor. */
        void find(Poly f, Poly h) {
            divisor.setConstant(1);
            if (f.degree < 1 || h.degree < 1) {
                return;
            }
            int before = -1;
            for (int t = 0; t < PRIMES.length; t++) {
                int degree = imageModulo(f, h, PRIMES[t]);
                if (degree == 0) {
                    return;
                }
                if (t > 0 && degree == before) {
                    rebuild(Poly.gcd(f.lead(), h.lead()), degree, PRIMES[t - 1], PRIMES[t]);
                    if (divide(f, guess) && divide(h, guess)) {
                        divisor.copy(guess);
                        return;
                    }
                }
                before = degree;
                long[] swap = image;
                image = earlier;
                earlier = swap;
            }
        }

        /** The divisor modulo a prime, with lead 1, goes into image; no lead is a multiple of the prime. */
        private int imageModulo(Poly f, Poly h, long prime) {
            long[] a = upper;
            long[] b = lower;
            for (int i = 0; i <= HIGHEST; i++) {
                a[i] = Math.floorMod(f.factors[i], prime);
                b[i] = Math.floorMod(h.factors[i], prime);
            }
            int top = f.degree;
            int low = h.degree;
            for (int turn = 0; turn < 3 * HIGHEST && low > 0; turn++) {
                eliminate(a, top, b, low, prime);
                long[] swap = a;
                a = b;
                b = swap;
                top = low;
                low = degreeOf(b);
            }
            if (low == 0 || top < 0) {
                return 0;
            }
            long scale = inverse(a[top], prime);
            for (int i = 0; i <= HIGHEST; i++) {
                image[i] = a[i] * scale % prime;
            }
            return top;
        }

        private static int degreeOf(long[] row) {
            int degree = row.length - 1;
            while (degree >= 0 && row[degree] == 0) {
                degree--;
            }
            return degree;
        }

        private static void eliminate(long[] a, int top, long[] b, int low, long prime) {
            long lead = b[low];
            for (int i = top; i >= low; i--) {
                long head = a[i];
                int shift = i - low;
                for (int j = 0; j <= i && head != 0; j++) {
                    long value = a[j] * lead;
                    if (j >= shift) {
                        value -= head * b[j - shift];
                    }
                    a[j] = Math.floorMod(value, prime);
                }
            }
        }

        private static long inverse(long value, long prime) {
            long result = 1;
            long square = value % prime;
            for (long power = prime - 2; power > 0; power >>= 1) {
                if ((power & 1) == 1) {
                    result = result * square % prime;
                }
                square = square * square % prime;
            }
            return result;
        }

        /** The lead of the divisor divides the share of the leads; with that lead nothing outgrows the bound. */
        private void rebuild(long share, int degree, long first, long second) {
            long link = inverse(first, second);
            long all = first * second;
            guess.setConstant(0);
            for (int i = 0; i <= degree; i++) {
                long u = share % first * earlier[i] % first;
                long w = share % second * image[i] % second;
                long value = u + first * (Math.floorMod(w - u, second) * link % second);
                guess.factors[i] = value > all / 2 ? value - all : value;
            }
            guess.measure();
            guess.makePrimitive();
        }

        /** Whether g divides f in whole numbers; the quotient is left behind then. */
        boolean divide(Poly f, Poly g) {
            quotient.setConstant(0);
            long lead = g.lead();
            if (lead == 0) {
                return false;
            }
            long widest = 1;
            for (int i = 0; i <= HIGHEST; i++) {
                rest[i] = f.factors[i];
                widest = Math.max(widest, Math.abs(g.factors[i]));
            }
            for (int j = f.degree - g.degree; j >= 0; j--) {
                long part = rest[j + g.degree] / lead;
                if (Math.abs(part) > SAFE / widest) {
                    return false;
                }
                quotient.factors[j] = part;
                for (int i = 0; i <= g.degree; i++) {
                    rest[j + i] -= part * g.factors[i];
                }
                if (rest[j + g.degree] != 0) {
                    return false;
                }
            }
            quotient.measure();
            return degreeOf(rest) < 0;
        }
    }

    /** Pairwise coprime pieces without double roots, and how often each divides each atom. */
    private static final class Basis {
        private final Poly[] pieces;
        private final int[] often;
        private int size;
        private final Divider divider;
        private final Poly core;
        private final Poly slope;
        private final Poly shared;
        private final Poly rest;

        Basis() {
            pieces = new Poly[MOST_ROOTS];
            for (int e = 0; e < MOST_ROOTS; e++) {
                pieces[e] = new Poly();
            }
            often = new int[MOST_ROOTS * MOST_ATOMS];
            divider = new Divider();
            core = new Poly();
            slope = new Poly();
            shared = new Poly();
            rest = new Poly();
        }

        /** In round n (from 1 on) rest has just those roots that count n times or more. */
        void addAtom(Poly poly, int atom) {
            core.copy(poly);
            core.makePrimitive();
            for (int round = 0; round < HIGHEST && core.degree > 0; round++) {
                slope.setSlopeOf(core);
                divider.find(core, slope);
                slope.copy(divider.divisor);
                divider.divide(core, slope);
                rest.copy(divider.quotient);
                core.copy(slope);
                foldRest(atom);
            }
        }

        private void foldRest(int atom) {
            int knownPieces = size;
            for (int e = 0; e < knownPieces && rest.degree > 0; e++) {
                divider.find(pieces[e], rest);
                if (divider.divisor.degree > 0) {
                    shared.copy(divider.divisor);
                    int slot = e;
                    if (shared.degree < pieces[e].degree) {
                        slot = splitOff(e, shared);
                    }
                    often[slot * MOST_ATOMS + atom]++;
                    divider.divide(rest, shared);
                    rest.copy(divider.quotient);
                }
            }
            if (rest.degree > 0 && size < MOST_ROOTS) {
                pieces[size].copy(rest);
                for (int i = 0; i < MOST_ATOMS; i++) {
                    often[size * MOST_ATOMS + i] = i == atom ? 1 : 0;
                }
                size++;
            }
        }

        /** A true divisor of a piece becomes a piece of its own: the slot of the new one. */
        int splitOff(int e, Poly part) {
            if (e < 0 || e >= size || size >= MOST_ROOTS || !divider.divide(pieces[e], part)) {
                return e;
            }
            pieces[e].copy(divider.quotient);
            pieces[size].copy(part);
            for (int i = 0; i < MOST_ATOMS; i++) {
                often[size * MOST_ATOMS + i] = often[e * MOST_ATOMS + i];
            }
            size++;
            return size - 1;
        }

        int multiplicity(int e, int atom) {
            return often[e * MOST_ATOMS + atom];
        }

        int distinctRoots(int atom) {
            int sum = 0;
            for (int e = 0; e < size; e++) {
                sum += multiplicity(e, atom) > 0 ? pieces[e].degree : 0;
            }
            return sum;
        }

        int sharedDegree(int owner) {
            int sum = 0;
            for (int e = 0; e < size; e++) {
                boolean inAll = true;
                for (int i = 0; i < MOST_ATOMS; i++) {
                    inAll = inAll && (multiplicity(owner, i) == 0 || multiplicity(e, i) > 0);
                }
                sum += inAll ? pieces[e].degree : 0;
            }
            return sum;
        }
    }

    /** A whole number of any size that its room allows: sign and limbs of 32 bits, the lowest first. */
    private static final class Big {
        private static final long MASK = 0xFFFFFFFFL;

        private final int[] limbs;
        private int size;
        private int mark;

        Big(int room) {
            limbs = new int[Math.max(2, room)];
        }

        void set(long value) {
            mark = Long.compare(value, 0);
            size = 0;
            for (long rest = Math.abs(value); rest != 0 && size < 2; rest >>>= 32) {
                limbs[size] = (int) rest;
                size++;
            }
        }

        void copy(Big other) {
            size = Math.min(other.size, limbs.length);
            System.arraycopy(other.limbs, 0, limbs, 0, size);
            mark = other.mark;
        }

        private void trim() {
            while (size > 0 && limbs[size - 1] == 0) {
                size--;
            }
            if (size == 0) {
                mark = 0;
            }
        }

        static int width(long value) {
            long rest = value;
            int bits = 0;
            for (int half = 32; half > 0; half >>= 1) {
                if (rest >>> half != 0) {
                    rest >>>= half;
                    bits += half;
                }
            }
            return rest != 0 ? bits + 1 : 0;
        }

        int bits() {
            return size == 0 ? 0 : 32 * (size - 1) + width(limbs[size - 1] & MASK);
        }

        boolean isEven() {
            return size == 0 || (limbs[0] & 1) == 0;
        }

        /** The number itself, if it is less than 2 to the power 63 either way. */
        long toLong() {
            long value = 0;
            for (int i = Math.min(size, 2) - 1; i >= 0; i--) {
                value = (value << 32) | (limbs[i] & MASK);
            }
            return mark < 0 ? -value : value;
        }

        void shiftUp(int by) {
            int words = by >> 5;
            int bits = by & 31;
            if (by <= 0 || mark == 0) {
                return;
            }
            int top = Math.min(limbs.length - 1, size + words);
            for (int i = top; i >= 0; i--) {
                int from = i - words;
                long high = from >= 0 && from < size ? limbs[from] & MASK : 0;
                long low = from >= 1 && from <= size ? limbs[from - 1] & MASK : 0;
                limbs[i] = (int) ((((high << 32) | low) << bits) >>> 32);
            }
            size = top + 1;
            trim();
        }

        void shiftDown(int by) {
            int words = by >> 5;
            int bits = by & 31;
            if (by <= 0 || mark == 0) {
                return;
            }
            for (int i = 0; i < size; i++) {
                long low = i + words < size ? limbs[i + words] & MASK : 0;
                long high = i + words + 1 < size ? limbs[i + words + 1] & MASK : 0;
                limbs[i] = (int) (((high << 32) | low) >>> bits);
            }
            trim();
        }

        int compareSize(Big other) {
            if (size != other.size) {
                return size < other.size ? -1 : 1;
            }
            for (int i = size - 1; i >= 0; i--) {
                if (limbs[i] != other.limbs[i]) {
                    return (limbs[i] & MASK) < (other.limbs[i] & MASK) ? -1 : 1;
                }
            }
            return 0;
        }

        /** Adds the other number (way 1) or takes it away (way -1). */
        void add(Big other, int way) {
            int otherMark = other.mark * way;
            if (otherMark == 0) {
                return;
            }
            if (mark == 0) {
                copy(other);
                mark = otherMark;
            } else if (mark == otherMark) {
                grow(other);
            } else {
                shrink(other);
                trim();
            }
        }

        private void grow(Big other) {
            long carry = 0;
            int least = Math.min(other.size, limbs.length);
            int i = 0;
            for (; i < least; i++) {
                carry += (other.limbs[i] & MASK) + (i < size ? limbs[i] & MASK : 0);
                limbs[i] = (int) carry;
                carry >>>= 32;
            }
            size = Math.max(size, least);
            for (; carry != 0 && i < limbs.length; i++) {
                carry += i < size ? limbs[i] & MASK : 0;
                limbs[i] = (int) carry;
                carry >>>= 32;
                size = Math.max(size, i + 1);
            }
        }

        private void shrink(Big other) {
            long borrow = 0;
            int most = Math.min(Math.max(size, other.size), limbs.length);
            for (int i = 0; i < most; i++) {
                borrow += (i < size ? limbs[i] & MASK : 0) - (i < other.size ? other.limbs[i] & MASK : 0);
                limbs[i] = (int) borrow;
                borrow >>= 32;
            }
            size = most;
            if (borrow != 0) {
                mark = -mark;
                long carry = 1;
                for (int i = 0; i < most; i++) {
                    carry += ~limbs[i] & MASK;
                    limbs[i] = (int) carry;
                    carry >>>= 32;
                }
            }
        }

        /** Becomes the product of two numbers, neither of which it is itself. */
        void setProduct(Big a, Big b) {
            mark = a.mark * b.mark;
            size = mark == 0 ? 0 : Math.min(a.size + b.size, limbs.length);
            for (int i = 0; i < size; i++) {
                limbs[i] = 0;
            }
            for (int i = 0; i < a.size && i < size; i++) {
                long factor = a.limbs[i] & MASK;
                long carry = 0;
                int reach = Math.min(b.size, size - i);
                for (int j = 0; j < reach; j++) {
                    carry += factor * (b.limbs[j] & MASK) + (limbs[i + j] & MASK);
                    limbs[i + j] = (int) carry;
                    carry >>>= 32;
                }
                if (i + reach < size) {
                    limbs[i + reach] = (int) carry;
                }
            }
            trim();
        }
    }

    /**
     * One root of one piece. A fraction is above / below; any other lies between left and left + 1, both
     * over 2 to the power bits, alone among the roots of its piece.
     */
    private static final class Root {
        private int owner;
        private boolean fraction;
        private long above;
        private long below;
        private long whole;
        private long part;
        private final Big left;
        private int bits;
        private int leap;
        private int before;

        Root() {
            left = new Big(Finder.LEFT_ROOM);
        }

        void start(Big corner, int bits, boolean fraction) {
            left.copy(corner);
            this.bits = bits;
            this.fraction = fraction;
            leap = 1;
        }

        void setFraction(long above, long below) {
            this.above = above;
            this.below = Math.max(1, below);
            whole = Math.floorDiv(above, this.below);
            part = Math.floorMod(above, this.below);
            fraction = true;
        }
    }

    /**
     * Parts the real roots of a piece by halving intervals, with Descartes' rule of signs. It walks from
     * left to right with one polynomial only, that of the interval it is at, moved to 0 .. 1.
     */
    private static final class Parter {
        private static final int ROWS = 80;
        // Mahler's bound parts the roots of a piece at some 236 bits.
        private static final int FINEST = 256;
        private static final int WIDEST = 30;
        private static final int NODES = 100000;

        private final Big[] moved;
        private final Big[] tested;
        private final Big corner;
        private final Big one;
        private int degree;
        private int bits;

        Parter() {
            moved = new Big[HIGHEST + 1];
            tested = new Big[HIGHEST + 1];
            for (int i = 0; i <= HIGHEST; i++) {
                moved[i] = new Big(ROWS);
                tested[i] = new Big(ROWS);
            }
            corner = new Big(Finder.LEFT_ROOM);
            one = new Big(1);
            one.set(1);
        }

        /** Fills roots from a place on, rising: how many there are then. */
        int part(Poly poly, Root[] roots, int from) {
            int start = -reach(poly);
            begin(poly, start);
            int found = from;
            for (int node = 0; node < NODES && degree > 0 && found < roots.length; node++) {
                if (moved[0].mark == 0) {
                    roots[found].start(corner, bits, true);
                    found++;
                    dropZero();
                    continue;
                }
                int changes = changes();
                if (changes > 1 && bits < FINEST) {
                    halve();
                    continue;
                }
                if (changes == 1) {
                    roots[found].start(corner, bits, false);
                    found++;
                }
                if (!stepOn(start)) {
                    break;
                }
            }
            return found;
        }

        /** All roots are less than 2 to this power either way (Fujiwara's bound; 1,000,000,001 in any case). */
        private static int reach(Poly poly) {
            int most = -WIDEST - 2;
            int leadWidth = Big.width(Math.abs(poly.lead()));
            for (int i = 1; i <= poly.degree; i++) {
                long factor = Math.abs(poly.factors[poly.degree - i]);
                if (factor != 0) {
                    int ratio = Big.width(factor) - leadWidth + 1;
                    most = Math.max(most, Math.floorDiv(ratio + i - 1, i) + 1);
                }
            }
            return Math.min(most, WIDEST);
        }

        private void begin(Poly poly, int start) {
            degree = poly.degree;
            bits = start;
            for (int i = 0; i <= degree; i++) {
                moved[i].set(poly.factors[i]);
                moved[i].shiftUp(start < 0 ? -start * i : start * (degree - i));
            }
            moveBy(moved, -1);
            corner.set(-1);
        }

        private void moveBy(Big[] row, int way) {
            for (int i = 0; i < degree; i++) {
                for (int j = degree - 1; j >= i; j--) {
                    row[j].add(row[j + 1], way);
                }
            }
        }

        private void dropZero() {
            for (int i = 0; i < degree; i++) {
                moved[i].copy(moved[i + 1]);
            }
            degree--;
        }

        /** An upper bound for the roots within the interval: exact if it is 0 or 1; beyond 1 it may be cut short. */
        private int changes() {
            if (!mixed(moved)) {
                return 0;
            }
            for (int i = 0; i <= degree; i++) {
                tested[i].copy(moved[degree - i]);
            }
            int changes = 0;
            int last = 0;
            for (int i = 0; i <= degree && changes < 2; i++) {
                for (int j = degree - 1; j >= i; j--) {
                    tested[j].add(tested[j + 1], 1);
                }
                int mark = tested[i].mark;
                changes += mark * last < 0 ? 1 : 0;
                last = mark != 0 ? mark : last;
            }
            return changes;
        }

        private boolean mixed(Big[] row) {
            boolean plus = false;
            boolean minus = false;
            for (int i = 0; i <= degree; i++) {
                plus = plus || row[i].mark > 0;
                minus = minus || row[i].mark < 0;
            }
            return plus && minus;
        }

        private void halve() {
            for (int i = 0; i < degree; i++) {
                moved[i].shiftUp(degree - i);
            }
            corner.shiftUp(1);
            bits++;
        }

        /** To the next interval on the right, as wide as can be; false at the end. */
        private boolean stepOn(int start) {
            moveBy(moved, 1);
            corner.add(one, 1);
            while (bits > start && corner.isEven()) {
                for (int i = 0; i < degree; i++) {
                    moved[i].shiftDown(degree - i);
                }
                corner.shiftDown(1);
                bits--;
            }
            return bits > start || corner.mark <= 0;
        }
    }

    /** Finds the roots of the pieces, narrows them, and compares them with fractions and with one another. */
    private static final class Finder {
        private static final int DEEPEST = 640;
        private static final int LEFT_ROOM = 24;
        private static final int VALUE_ROOM = 196;
        private static final int PART_BITS = 32;
        private static final int TURNS = 10000;

        private final Basis basis;
        private final Parter parter;
        private final Root[] roots;
        private int found;
        private final Poly linear;
        private final Big one;
        private final Big probe;
        private final Big edge;
        private final Big jump;
        private final Big point;
        private final Big term;
        private final Big work;
        private final Big power;
        private Big low;
        private Big high;
        private Big middle;
        private Big other;

        Finder() {
            basis = new Basis();
            parter = new Parter();
            roots = new Root[MOST_ROOTS];
            for (int i = 0; i < MOST_ROOTS; i++) {
                roots[i] = new Root();
            }
            linear = new Poly();
            one = new Big(1);
            one.set(1);
            probe = new Big(LEFT_ROOM);
            edge = new Big(LEFT_ROOM);
            jump = new Big(LEFT_ROOM);
            point = new Big(LEFT_ROOM);
            term = new Big(VALUE_ROOM);
            work = new Big(VALUE_ROOM);
            power = new Big(LEFT_ROOM);
            low = new Big(VALUE_ROOM);
            high = new Big(VALUE_ROOM);
            middle = new Big(VALUE_ROOM);
            other = new Big(VALUE_ROOM);
        }

        /** Fractions among the roots are split off, so that what stays has no root at any fraction. */
        void solve(int e) {
            Poly piece = basis.pieces[e];
            int from = found;
            if (piece.degree == 1 && found < MOST_ROOTS) {
                roots[found].owner = e;
                roots[found].setFraction(-piece.factors[0], piece.factors[1]);
                found++;
                return;
            }
            found = parter.part(piece, roots, from);
            // A root that was met at a corner may be the corner of its neighbour too: it has to go first.
            for (int i = from; i < found; i++) {
                if (roots[i].fraction) {
                    readBinary(roots[i]);
                    giveOwnPiece(roots[i], e);
                }
            }
            for (int i = from; i < found; i++) {
                if (!roots[i].fraction) {
                    settle(roots[i], e);
                }
            }
            setSigns(from);
        }

        private void settle(Root root, int e) {
            root.owner = e;
            tighten(root, basis.pieces[e], PART_BITS);
            if (root.fraction) {
                readBinary(root);
            } else {
                readParts(root);
                tryFraction(root, basis.pieces[e]);
            }
            if (root.fraction) {
                giveOwnPiece(root, e);
            }
        }

        private void giveOwnPiece(Root root, int e) {
            root.owner = e;
            if (basis.pieces[e].degree > 1) {
                linear.setLinear(root.below, -root.above);
                root.owner = basis.splitOff(e, linear);
            }
        }

        /** The lead is positive, so the sign left of a root tells whether the roots from it on are odd in number. */
        private void setSigns(int from) {
            int mark = 1;
            for (int i = found - 1; i >= from; i--) {
                if (!roots[i].fraction) {
                    mark = -mark;
                    roots[i].before = mark;
                }
            }
        }

        private void readBinary(Root root) {
            probe.copy(root.left);
            int bits = root.bits;
            if (bits < 0 || probe.mark == 0) {
                probe.shiftUp(-bits);
                bits = 0;
            }
            while (bits > 0 && probe.isEven()) {
                probe.shiftDown(1);
                bits--;
            }
            root.setFraction(probe.toLong(), 1L << Math.min(bits, PART_BITS));
        }

        private void readParts(Root root) {
            probe.copy(root.left);
            boolean under = probe.mark < 0;
            if (under) {
                probe.add(one, 1);
            }
            probe.shiftDown(root.bits - PART_BITS);
            long scaled = under ? probe.toLong() - 1 : probe.toLong();
            root.whole = scaled >> PART_BITS;
            root.part = scaled & Big.MASK;
        }

        /** The lead times a root that is a fraction is whole, and only one whole number comes into question. */
        private void tryFraction(Root root, Poly piece) {
            long lead = piece.lead();
            long above = lead * root.whole + ((lead * (root.part + 1)) >>> PART_BITS);
            long share = Poly.gcd(above, lead);
            if (share == 0) {
                return;
            }
            above /= share;
            long below = lead / share;
            linear.setLinear(below, -above);
            if (Math.abs(above) <= LARGEST && basis.divider.divide(piece, linear)
                    && sideOf(root, above, below) == 0) {
                root.setFraction(above, below);
            }
        }

        /** Where a fraction lies: -1 left of the root's interval, 0 within, 1 right of it. */
        private int sideOf(Root root, long above, long below) {
            term.set(above);
            term.shiftUp(root.bits);
            power.set(below);
            work.setProduct(root.left, power);
            term.add(work, -1);
            if (term.mark <= 0) {
                return -1;
            }
            term.add(power, -1);
            return term.mark >= 0 ? 1 : 0;
        }

        /**
         * Narrows an interval that is not a fraction's, by guesses along the chord that grow twice as fine
         * with each success and half as fine with each failure; the coarsest guess is a halving.
         */
        private void tighten(Root root, Poly piece, int wanted) {
            int goal = Math.min(wanted, DEEPEST);
            if (root.fraction || root.bits >= goal) {
                return;
            }
            edge.copy(root.left);
            edge.add(one, 1);
            setValue(low, piece, root.left, root.bits);
            setValue(high, piece, edge, root.bits);
            for (int turn = 0; turn < TURNS && root.bits < goal && !root.fraction; turn++) {
                int leap = Math.max(1, Math.min(root.leap, goal - root.bits));
                guessJump(leap);
                probe.copy(root.left);
                probe.shiftUp(leap);
                probe.add(jump, 1);
                setValue(middle, piece, probe, root.bits + leap);
                boolean further = middle.mark == low.mark;
                edge.copy(probe);
                edge.add(one, further ? 1 : -1);
                setValue(other, piece, edge, root.bits + leap);
                take(root, leap, further);
            }
        }

        private void take(Root root, int leap, boolean further) {
            boolean hit = middle.mark == 0 || other.mark == 0;
            boolean good = hit || further == (other.mark != low.mark);
            root.leap = good ? leap * 2 : Math.max(1, leap / 2);
            if (!good) {
                return;
            }
            root.bits += leap;
            root.fraction = hit;
            boolean atProbe = hit ? middle.mark == 0 : further;
            root.left.copy(atProbe ? probe : edge);
            Big oldLow = low;
            Big oldHigh = high;
            low = further ? middle : other;
            high = further ? other : middle;
            middle = oldLow;
            other = oldHigh;
        }

        /** Where the chord meets 0 among 2 to the power leap parts: the nearest inner mark, into jump. */
        private void guessJump(int leap) {
            term.copy(low);
            work.copy(high);
            term.mark = Math.abs(term.mark);
            work.mark = Math.abs(work.mark);
            work.add(term, 1);
            int surplus = work.bits() - leap - 32;
            term.shiftDown(surplus);
            work.shiftDown(surplus);
            jump.set(0);
            for (int i = 0; i <= leap; i++) {
                term.shiftUp(1);
                jump.shiftUp(1);
                if (term.compareSize(work) >= 0) {
                    term.add(work, -1);
                    jump.add(one, 1);
                }
            }
            // One bit more than wanted was reckoned, for rounding.
            jump.add(one, 1);
            jump.shiftDown(1);
            if (jump.mark == 0) {
                jump.set(1);
            }
            if (jump.bits() > leap) {
                jump.set(1);
                jump.shiftUp(leap);
                jump.add(one, -1);
            }
        }

        /** The value at at / 2 to the power bits, times a positive number that depends on bits alone. */
        private void setValue(Big value, Poly poly, Big at, int bits) {
            point.copy(at);
            point.shiftUp(-bits);
            value.set(poly.lead());
            for (int i = poly.degree - 1; i >= 0; i--) {
                work.setProduct(value, point);
                value.copy(work);
                if (poly.factors[i] != 0) {
                    term.set(poly.factors[i]);
                    term.shiftUp(bits * (poly.degree - i));
                    value.add(term, 1);
                }
            }
        }

        int signAtFraction(Poly poly, long above, long below) {
            point.set(above);
            probe.set(below);
            power.set(1);
            other.set(poly.lead());
            for (int i = poly.degree - 1; i >= 0; i--) {
                work.setProduct(other, point);
                other.copy(work);
                work.setProduct(power, probe);
                power.copy(work);
                term.set(poly.factors[i]);
                work.setProduct(power, term);
                other.add(work, 1);
            }
            return other.mark;
        }

        /** The sign of a root less the number whole + rest / below. */
        int compareWith(Root root, long whole, long rest, long below) {
            if (root.whole != whole) {
                return Long.compare(root.whole, whole);
            }
            if (root.fraction) {
                return Long.compare(root.part * below, rest * root.below);
            }
            if (rest << PART_BITS <= root.part * below) {
                return 1;
            }
            if (rest << PART_BITS >= (root.part + 1) * below) {
                return -1;
            }
            long above = whole * below + rest;
            int side = sideOf(root, above, below);
            if (side != 0) {
                return -side;
            }
            return signAtFraction(basis.pieces[root.owner], above, below) == root.before ? 1 : -1;
        }

        /** The greatest whole number that is not above a root times scale (up to 100,000,000). */
        long scaledFloor(Root root, long scale) {
            if (root.fraction) {
                return root.whole * scale + root.part * scale / root.below;
            }
            long rest = root.part * scale >>> PART_BITS;
            if (rest + 1 < scale && compareWith(root, root.whole, rest + 1, scale) > 0) {
                rest++;
            }
            return root.whole * scale + rest;
        }

        /** Which of two roots is the greater, as far as their first digits tell; 0 if they do not. */
        int compareQuickly(Root a, Root b) {
            if (b.fraction) {
                return compareWith(a, b.whole, b.part, b.below);
            }
            if (a.fraction) {
                return -compareWith(b, a.whole, a.part, a.below);
            }
            return a.whole != b.whole ? Long.compare(a.whole, b.whole) : Long.compare(a.part, b.part);
        }

        /**
         * The same for two roots of different pieces, neither a fraction: narrowed until their intervals part.
         * They do before DEEPEST: coprime pieces have a resultant of at least 1, so their roots are more than
         * 2 to the power -568 apart.
         */
        int compareDeeply(Root a, Root b) {
            for (int turn = 0; turn < TURNS; turn++) {
                boolean firstIsWide = a.bits <= b.bits;
                Root wide = firstIsWide ? a : b;
                Root thin = firstIsWide ? b : a;
                int gap = thin.bits - wide.bits;
                probe.copy(wide.left);
                probe.shiftUp(gap);
                edge.copy(thin.left);
                edge.add(probe, -1);
                if (edge.mark < 0) {
                    return firstIsWide ? 1 : -1;
                }
                if (edge.bits() > gap || wide.bits >= DEEPEST) {
                    return firstIsWide ? -1 : 1;
                }
                tighten(wide, basis.pieces[wide.owner], wide.bits + wide.leap);
            }
            return 0;
        }
    }

    /** All roots in order, and what holds at each of them and between them. */
    private static final class Line {
        private static final int CELLS = 2 * MOST_ROOTS + 1;
        private static final int LARGEST_BELOW = 2000;

        private final Reader reader;
        private final Finder finder;
        private final Basis basis;
        private final int[] order;
        private int size;
        private final byte[] signs;
        private final boolean[] held;
        private int holding;
        private int first;
        private int last;
        private int pieces;
        private final long[] simpleAbove;
        private final int[] simpleBelow;

        Line() {
            reader = new Reader();
            finder = new Finder();
            basis = finder.basis;
            order = new int[MOST_ROOTS];
            signs = new byte[CELLS * MOST_ATOMS];
            held = new boolean[CELLS];
            simpleAbove = new long[CELLS];
            simpleBelow = new int[CELLS];
        }

        Root rootAt(int k) {
            return finder.roots[order[Math.max(0, Math.min(k, MOST_ROOTS - 1))]];
        }

        /** Roots of one piece come rising, so the later one is the greater where quick looks do not tell. */
        void insert(int index) {
            if (size >= MOST_ROOTS) {
                return;
            }
            Root coming = finder.roots[index];
            int spot = size;
            while (spot > 0) {
                Root there = rootAt(spot - 1);
                int way = finder.compareQuickly(coming, there);
                if (way == 0 && coming.owner != there.owner) {
                    way = finder.compareDeeply(coming, there);
                }
                if (way >= 0) {
                    break;
                }
                order[spot] = order[spot - 1];
                spot--;
            }
            order[spot] = index;
            size++;
        }

        void fillCells() {
            int cells = 2 * size + 1;
            for (int i = 0; i < reader.atoms; i++) {
                fillSigns(i);
            }
            holding = 0;
            pieces = 0;
            first = NONE;
            last = NONE;
            for (int cell = 0; cell < cells; cell++) {
                simpleBelow[cell] = 0;
                held[cell] = reader.fulfilledBy(trueAtoms(cell));
                if (held[cell]) {
                    pieces += last != cell - 1 || holding == 0 ? 1 : 0;
                    first = holding == 0 ? cell : first;
                    last = cell;
                    holding++;
                }
            }
        }

        /** From above all roots downwards: a sign turns at a root that counts an odd number of times. */
        private void fillSigns(int atom) {
            int mark = Long.compare(reader.polys[atom].lead(), 0);
            signs[2 * size * MOST_ATOMS + atom] = (byte) mark;
            for (int k = size - 1; k >= 0; k--) {
                int often = basis.multiplicity(rootAt(k).owner, atom);
                signs[(2 * k + 1) * MOST_ATOMS + atom] = (byte) (often > 0 ? 0 : mark);
                mark = often % 2 == 1 ? -mark : mark;
                signs[2 * k * MOST_ATOMS + atom] = (byte) mark;
            }
        }

        private int trueAtoms(int cell) {
            int set = 0;
            for (int i = 0; i < reader.atoms; i++) {
                int mark = signs[cell * MOST_ATOMS + i];
                int due = reader.rels[i] == 0 ? 0 : reader.rels[i] == 1 ? -1 : 1;
                set |= mark == due ? 1 << i : 0;
            }
            return set;
        }

        int rootsOf(int atom) {
            int sum = 0;
            for (int k = 0; k < size; k++) {
                sum += basis.multiplicity(rootAt(k).owner, atom) > 0 ? 1 : 0;
            }
            return sum;
        }

        /** The cell of whole + rest / below. */
        int locate(long whole, long rest, long below) {
            int under = 0;
            int upTo = size;
            while (under < upTo) {
                int k = (under + upTo) / 2;
                int way = finder.compareWith(rootAt(k), whole, rest, below);
                if (way == 0) {
                    return 2 * k + 1;
                }
                if (way < 0) {
                    under = k + 1;
                } else {
                    upTo = k;
                }
            }
            return 2 * under;
        }

        /** The simple fraction of a root's cell; its denominator is NONE or GREAT where none can be told. */
        void fillAt(int cell) {
            Root root = rootAt(cell / 2);
            simpleAbove[cell] = root.above;
            if (!root.fraction) {
                simpleBelow[cell] = NONE;
            } else {
                simpleBelow[cell] = root.below > LARGEST_BELOW ? GREAT : (int) root.below;
            }
        }

        /** The simple fraction of any other cell, kept until the next text is read. */
        void fillBetween(int cell) {
            if (simpleBelow[cell] != 0) {
                return;
            }
            long whole = 0;
            int zero = locate(0, 0, 1);
            if (zero < cell) {
                whole = rootAt(cell / 2 - 1).whole + 1;
            } else if (zero > cell) {
                Root upper = rootAt(cell / 2);
                whole = upper.fraction && upper.part == 0 ? upper.whole - 1 : upper.whole;
            }
            simpleAbove[cell] = whole;
            simpleBelow[cell] = 1;
            if (zero != cell && locate(whole, 0, 1) != cell) {
                descend(cell, zero < cell ? whole - 1 : whole);
            }
        }

        /** The cell lies between whole and whole + 1: the first mediant in it has the least denominator. */
        private void descend(int cell, long whole) {
            Root lower = rootAt(cell / 2 - 1);
            Root upper = rootAt(cell / 2);
            long leftAbove = 0;
            long leftBelow = 1;
            long rightAbove = 1;
            long rightBelow = 1;
            simpleBelow[cell] = GREAT;
            while (leftBelow + rightBelow <= LARGEST_BELOW) {
                long above = leftAbove + rightAbove;
                long below = leftBelow + rightBelow;
                if (finder.compareWith(lower, whole, above, below) >= 0) {
                    leftAbove = above;
                    leftBelow = below;
                } else if (finder.compareWith(upper, whole, above, below) <= 0) {
                    rightAbove = above;
                    rightBelow = below;
                } else {
                    simpleAbove[cell] = whole * below + above;
                    simpleBelow[cell] = (int) below;
                    return;
                }
            }
        }
    }
}
