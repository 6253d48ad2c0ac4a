import java.util.Arrays;
import java.util.NoSuchElementException;

/** Straight programs that make polynomials in x, y, z over small fields; ../shared/DOC.md says what each call answers. */
public final class StraightPolys {
    public static final int NONE = -1;

    private static final int TOO_MUCH = -2;
    private static final int PLACES = 6;
    private static final int VARIABLES = 3;
    private static final int TAPE = 200;
    private static final int FED = 20;
    private static final int MOST_TERMS = 300;
    private static final int MOST_EXPONENT = 40;
    private static final int MOST_DEGREE = VARIABLES * MOST_EXPONENT;
    private static final int MOST_POWER = 9;
    private static final int MOST_STEPS = 23;
    private static final int GREATEST_P = 13;

    private final Poly zero = new Poly(0);
    private final Poly[] places = new Poly[PLACES];
    private final Ring ring = new Ring();
    private final Points points = new Points();
    private final Factors factors = new Factors();
    private final Order sorted = new Order();
    private final Speech speech = new Speech();
    private final Acts acts = new Acts();
    private final int[] tape = new int[TAPE];
    private int tapeLength = 0;
    private int faultPlace = NONE;
    private Program program = null;

    public StraightPolys() {
        for (int place = 0; place < PLACES; place++) {
            places[place] = zero;
        }
    }

    public int field(int p) {
        if (!Ring.isSize(p)) {
            return NONE;
        }
        int before = ring.p;
        ring.p = p;
        for (int place = 0; place < PLACES; place++) {
            places[place] = zero;
        }
        program = null;
        acts.forget();
        factors.forget();
        return before;
    }

    public int feed(int a, int b, int c, int d, int e) {
        if (tapeLength + FED > TAPE) {
            return NONE;
        }
        append(a);
        append(b);
        append(c);
        append(d);
        append(e);
        return tapeLength;
    }

    public int tell(int place, int n) throws IllegalArgumentException {
        if (!isPlace(place) || n < 0 || n > tapeLength) {
            throw new IllegalArgumentException("no such place, or not so many bytes");
        }
        tapeLength = 0;
        Program told = new Program();
        Reader reader = new Reader(tape, n, told);
        int fault = reader.read();
        faultPlace = fault == Reader.FINE ? NONE : reader.start;
        if (fault != Reader.FINE) {
            return -10 - fault;
        }
        if (!told.run(ring)) {
            return TOO_MUCH;
        }
        program = told;
        return keep(place, told.makes[told.size - 1]);
    }

    public int fault() {
        return faultPlace;
    }

    public int count(int what) throws NoSuchElementException {
        switch (what) {
            case 0:
                return ring.p;
            case 1:
                return program == null ? 0 : program.size;
            case 2:
                return tapeLength;
            case 3:
                return acts.size;
            default:
                throw new NoSuchElementException("no such count");
        }
    }

    public int step(int step, int what) throws NoSuchElementException {
        Program asked = program;
        if (asked == null || step < 0 || step >= asked.size) {
            throw new NoSuchElementException("no such step");
        }
        switch (what) {
            case 0:
                return asked.bounds[step];
            case 1:
                return asked.makes[step].degree();
            case 2:
                return asked.makes[step].size;
            case 3:
                return asked.names[step];
            case 4:
                return asked.lastStandsOn(step) ? 1 : 0;
            case 5:
                return asked.firstLike(step);
            case 6:
                return asked.usersOf(step);
            default:
                throw new NoSuchElementException("a step has no such number");
        }
    }

    public int at(int step, boolean back, int x, int y, int z) throws NoSuchElementException, IllegalArgumentException {
        Program asked = program;
        if (asked == null || step < 0 || step >= asked.size) {
            throw new NoSuchElementException("no such step");
        }
        if (!ring.isPoint(x, y, z)) {
            throw new IllegalArgumentException("no such point");
        }
        asked.findValues(x, y, z, ring.p);
        return back ? asked.turnOf(step, ring.p) : asked.values[step];
    }

    public int make(int place, int how, int i, int j) {
        if (!isPlace(place) || !isPlace(i) || !canMake(how, i, j)) {
            return NONE;
        }
        return keep(place, made(how, places[i], j));
    }

    public int put(int place, int i, int variable, int j) {
        if (!isPlace(place) || !isPlace(i) || !isPlace(j) || variable < 0 || variable >= VARIABLES) {
            return NONE;
        }
        return keep(place, ring.putInto(places[i], variable, places[j]));
    }

    public int fit(int place) throws IllegalArgumentException {
        if (!isPlace(place) || tapeLength < ring.p) {
            throw new IllegalArgumentException("no such place, or too few bytes");
        }
        tapeLength = 0;
        for (int i = 0; i < ring.p; i++) {
            if (tape[i] >= ring.p) {
                return NONE;
            }
        }
        return keep(place, ring.fitTo(tape));
    }

    public int undo() {
        if (acts.size == 0) {
            return NONE;
        }
        acts.takeBack(places);
        return acts.size;
    }

    public int of(int place, int what) throws NoSuchElementException {
        Poly asked = polyAt(place);
        switch (what) {
            case 0:
                return asked.size;
            case 1:
                return asked.degree();
            case 2:
            case 3:
            case 4:
                return asked.degreeIn(what - 2);
            case 5:
                points.load(asked, zero, ring.p);
                return points.zeros();
            case 6:
                factors.find(asked, ring.p);
                return factors.size;
            case 7:
                factors.find(asked, ring.p);
                return factors.inAll();
            case 8:
                return asked.hasOneDegree() ? 1 : 0;
            default:
                throw new NoSuchElementException("a polynomial has no such number");
        }
    }

    public int term(int place, int order, int i, int what) throws NoSuchElementException {
        Poly asked = polyAt(place);
        if (order < 0 || order > 2 || i < 0 || i >= asked.size || what < 0 || what > VARIABLES) {
            throw new NoSuchElementException("no such order, term or number of a term");
        }
        sorted.sort(asked, order);
        int found = sorted.indexOf(i);
        return what == 0 ? asked.numbers[found] : Poly.exponent(asked.keys[found], what - 1);
    }

    public int number(int place, int x, int y, int z) throws NoSuchElementException, IllegalArgumentException {
        Poly asked = polyAt(place);
        if (x < 0 || y < 0 || z < 0) {
            throw new IllegalArgumentException("an exponent below 0");
        }
        if (x > MOST_EXPONENT || y > MOST_EXPONENT || z > MOST_EXPONENT) {
            return 0;
        }
        return asked.numberWith(Poly.key(x, y, z));
    }

    public int value(int place, int x, int y, int z) throws NoSuchElementException, IllegalArgumentException {
        Poly asked = polyAt(place);
        if (!ring.isPoint(x, y, z)) {
            throw new IllegalArgumentException("no such point");
        }
        return ring.valueAt(asked, x, y, z);
    }

    public boolean same(int i, int j, boolean everywhere) throws NoSuchElementException {
        Poly one = polyAt(i);
        Poly other = polyAt(j);
        return everywhere ? firstUnlike(one, other) == NONE : one.isLike(other);
    }

    public int witness(int i, int j) throws NoSuchElementException {
        Poly one = polyAt(i);
        Poly other = polyAt(j);
        return firstUnlike(one, other);
    }

    public int factor(int place, int k, int what) throws NoSuchElementException {
        Poly asked = polyAt(place);
        if (k < 0 || what < 0 || what >= Factors.ROW) {
            throw new NoSuchElementException("no such factor, or number of one");
        }
        factors.find(asked, ring.p);
        if (k >= factors.size) {
            throw new NoSuchElementException("no such factor");
        }
        return factors.rows[k * Factors.ROW + what];
    }

    public int often(int place, int a, int b, int c, int d) throws NoSuchElementException, IllegalArgumentException {
        Poly asked = polyAt(place);
        if (!ring.isLine(a, b, c, d)) {
            throw new IllegalArgumentException("no line");
        }
        if (asked.size == 0) {
            return NONE;
        }
        return factors.timesOf(asked, ring.p, new Line(a, b, c, d));
    }

    public int say(int place) throws NoSuchElementException {
        Poly asked = polyAt(place);
        sorted.sort(asked, 0);
        speech.write(asked, sorted);
        return speech.length;
    }

    public int said(int i) {
        return i < 0 || i >= speech.length ? NONE : speech.bytes[i];
    }

    private static boolean isPlace(int place) {
        return place >= 0 && place < PLACES;
    }

    private Poly polyAt(int place) {
        if (!isPlace(place)) {
            throw new NoSuchElementException("no such place");
        }
        return places[place];
    }

    private void append(int number) {
        for (int shift = 24; shift >= 0; shift -= 8) {
            tape[tapeLength] = (number >> shift) & 255;
            tapeLength++;
        }
    }

    /** A missing polynomial stands for one that is TOO MUCH. */
    private int keep(int place, Poly made) {
        if (made == null) {
            return TOO_MUCH;
        }
        acts.note(place, places[place]);
        places[place] = made;
        return made.size;
    }

    private boolean canMake(int how, int i, int j) {
        switch (how) {
            case 0:
            case 1:
            case 2:
                return isPlace(j);
            case 3:
                return j >= 0 && j < VARIABLES;
            case 4:
                return j >= 0 && j <= MOST_POWER;
            case 5:
                return j >= 0 && j <= MOST_DEGREE;
            case 6:
                return true;
            case 7:
                return places[i].size > 0;
            case 8:
                return isPlace(j) && places[i].isInXAlone() && places[j].isInXAlone();
            case 9:
                return j >= 0 && j <= 5;
            default:
                return false;
        }
    }

    private Poly made(int how, Poly f, int j) {
        switch (how) {
            case 0:
                return ring.sum(f, places[j], 1);
            case 1:
                return ring.sum(f, places[j], ring.p - 1);
            case 2:
                return ring.product(f, places[j]);
            case 3:
                return ring.derivative(f, j);
            case 4:
                return ring.power(f, j);
            case 5:
                return ring.part(f, j);
            case 6:
                return ring.reduced(f);
            case 7:
                factors.find(f, ring.p);
                return factors.rest();
            case 8:
                return ring.common(f, places[j]);
            default:
                return ring.turned(f, j);
        }
    }

    private int firstUnlike(Poly one, Poly other) {
        points.load(one, other, ring.p);
        return points.firstNotZero();
    }

    /** A sum of terms, the greatest by ORDER 1 first; one with room for MOST_TERMS is written anew again and again. */
    private static final class Poly {
        static final int BITS = 6;
        static final int MASK = 63;

        final int[] keys;
        final int[] numbers;
        int size = 0;
        boolean over = false;

        Poly(int room) {
            keys = new int[room];
            numbers = new int[room];
        }

        static int key(int x, int y, int z) {
            return (x << (2 * BITS)) | (y << BITS) | z;
        }

        static int unit(int variable) {
            return 1 << ((2 - variable) * BITS);
        }

        static int exponent(int key, int variable) {
            return (key >> ((2 - variable) * BITS)) & MASK;
        }

        static int degreeOf(int key) {
            return exponent(key, 0) + exponent(key, 1) + exponent(key, 2);
        }

        static Poly single(int key, int number) {
            Poly made = new Poly(number == 0 ? 0 : 1);
            made.push(key, number);
            return made;
        }

        void clear() {
            size = 0;
            over = false;
        }

        void push(int key, int number) {
            if (number == 0) {
                return;
            }
            if (size >= keys.length) {
                over = true;
                return;
            }
            keys[size] = key;
            numbers[size] = number;
            size++;
        }

        /** A copy that never changes, or null if this is TOO MUCH. */
        Poly kept() {
            if (over) {
                return null;
            }
            Poly copy = new Poly(size);
            System.arraycopy(keys, 0, copy.keys, 0, size);
            System.arraycopy(numbers, 0, copy.numbers, 0, size);
            copy.size = size;
            return copy;
        }

        int degree() {
            int most = NONE;
            for (int i = 0; i < size; i++) {
                most = Math.max(most, degreeOf(keys[i]));
            }
            return most;
        }

        int degreeIn(int variable) {
            int most = NONE;
            for (int i = 0; i < size; i++) {
                most = Math.max(most, exponent(keys[i], variable));
            }
            return most;
        }

        /** As degreeIn, with 0 for the polynomial 0. */
        int roomIn(int variable) {
            return Math.max(0, degreeIn(variable));
        }

        /** The least EXPONENT, 0 for the polynomial 0. */
        int leastIn(int variable) {
            int least = size == 0 ? 0 : MOST_EXPONENT;
            for (int i = 0; i < size; i++) {
                least = Math.min(least, exponent(keys[i], variable));
            }
            return least;
        }

        boolean isInXAlone() {
            return degreeIn(1) <= 0 && degreeIn(2) <= 0;
        }

        boolean hasOneDegree() {
            for (int i = 1; i < size; i++) {
                if (degreeOf(keys[i]) != degreeOf(keys[0])) {
                    return false;
                }
            }
            return true;
        }

        int numberWith(int key) {
            for (int i = 0; i < size; i++) {
                if (keys[i] == key) {
                    return numbers[i];
                }
            }
            return 0;
        }

        boolean isLike(Poly other) {
            if (size != other.size) {
                return false;
            }
            for (int i = 0; i < size; i++) {
                if (keys[i] != other.keys[i] || numbers[i] != other.numbers[i]) {
                    return false;
                }
            }
            return true;
        }
    }

    /** Numbers for all monomials up to given exponents, as sums come up; its row grows only when it must. */
    private static final class Box {
        // EXPONENTS of two polynomials can come together in putInto, but not in the variable that goes.
        static final int MOST_CELLS = (2 * MOST_EXPONENT + 1) * (2 * MOST_EXPONENT + 1) * (MOST_EXPONENT + 1);

        int[] cells = new int[0];
        int used = 0;
        final int[] strides = {1, 1, 1};

        void open(int x, int y, int z) {
            strides[1] = z + 1;
            strides[0] = (y + 1) * strides[1];
            used = (x + 1) * strides[0];
            if (used > cells.length) {
                cells = new int[Math.max(used, Math.min(2 * cells.length, MOST_CELLS))];
            } else {
                Arrays.fill(cells, 0, used, 0);
            }
        }

        /** Behind these exponents there is nothing any more. */
        void narrow(int x, int y, int z) {
            used = Math.min(used, x * strides[0] + y * strides[1] + z + 1);
        }

        int cellOf(int key) {
            return Poly.exponent(key, 0) * strides[0] + Poly.exponent(key, 1) * strides[1] + Poly.exponent(key, 2);
        }

        void copyFrom(Box other) {
            if (other.used > cells.length) {
                cells = new int[other.cells.length];
            }
            used = other.used;
            strides[0] = other.strides[0];
            strides[1] = other.strides[1];
            System.arraycopy(other.cells, 0, cells, 0, used);
        }

        void readInto(Poly into, int p) {
            into.clear();
            for (int cell = used - 1; cell >= 0 && !into.over; cell--) {
                if (cells[cell] != 0) {
                    pushCell(into, cell, cells[cell] % p);
                }
            }
        }

        private void pushCell(Poly into, int cell, int number) {
            int x = cell / strides[0];
            int inSlice = cell - x * strides[0];
            int y = inSlice / strides[1];
            int z = inSlice - y * strides[1];
            if (x <= MOST_EXPONENT && y <= MOST_EXPONENT && z <= MOST_EXPONENT) {
                into.push(Poly.key(x, y, z), number);
            } else if (number != 0) {
                into.over = true;
            }
        }
    }

    /** What is made of polynomials; what it answers is kept for good, and null if it is TOO MUCH. */
    private static final class Ring {
        private static final int[] SIZES = {2, 3, 5, 7, 11, 13};
        // Three by three: what x, y and z become.
        private static final int[] TURNS = {0, 1, 2, 0, 2, 1, 1, 0, 2, 1, 2, 0, 2, 0, 1, 2, 1, 0};

        int p = 5;
        private final Poly draft = new Poly(MOST_TERMS);
        private final Poly running = new Poly(MOST_TERMS);
        private final Box products = new Box();
        private final Box sums = new Box();
        private final int[] offsets = new int[MOST_TERMS];
        private final int[] powersOfPoint = new int[VARIABLES * (MOST_EXPONENT + 1)];
        private final int[] firstRow = new int[MOST_EXPONENT + 1];
        private final int[] secondRow = new int[MOST_EXPONENT + 1];

        static boolean isSize(int p) {
            for (int size : SIZES) {
                if (size == p) {
                    return true;
                }
            }
            return false;
        }

        boolean isNumber(int n) {
            return n >= 0 && n < p;
        }

        boolean isPoint(int x, int y, int z) {
            return isNumber(x) && isNumber(y) && isNumber(z);
        }

        boolean isLine(int a, int b, int c, int d) {
            if (!isNumber(a) || !isNumber(b) || !isNumber(c) || !isNumber(d)) {
                return false;
            }
            return a == 1 || a == 0 && (b == 1 || b == 0 && c == 1);
        }

        /** f and times g together. */
        Poly sum(Poly f, Poly g, int times) {
            draft.clear();
            int j = 0;
            for (int i = 0; i < f.size; i++) {
                for (; j < g.size && g.keys[j] > f.keys[i]; j++) {
                    draft.push(g.keys[j], times * g.numbers[j] % p);
                }
                int number = f.numbers[i];
                if (j < g.size && g.keys[j] == f.keys[i]) {
                    number += times * g.numbers[j];
                    j++;
                }
                draft.push(f.keys[i], number % p);
            }
            for (; j < g.size; j++) {
                draft.push(g.keys[j], times * g.numbers[j] % p);
            }
            return draft.kept();
        }

        Poly product(Poly f, Poly g) {
            return multiply(f, g, draft) ? draft.kept() : null;
        }

        Poly power(Poly f, int n) {
            draft.clear();
            draft.push(0, 1);
            for (int k = 1; k <= n; k++) {
                if (!multiply(draft, f, draft)) {
                    return null;
                }
            }
            return draft.kept();
        }

        /** False: it is TOO MUCH. The target may be one of the two. */
        private boolean multiply(Poly f, Poly g, Poly into) {
            if (f.size == 0 || g.size == 0) {
                into.clear();
                return true;
            }
            int x = f.degreeIn(0) + g.degreeIn(0);
            int y = f.degreeIn(1) + g.degreeIn(1);
            int z = f.degreeIn(2) + g.degreeIn(2);
            // Over a field the greatest EXPONENTS never cancel, so the product has just these.
            if (x > MOST_EXPONENT || y > MOST_EXPONENT || z > MOST_EXPONENT) {
                return false;
            }
            products.open(x, y, z);
            findOffsets(g, products);
            for (int i = 0; i < f.size; i++) {
                addTimes(products, products.cellOf(f.keys[i]), f.numbers[i], g);
            }
            products.readInto(into, p);
            return !into.over;
        }

        private void findOffsets(Poly g, Box box) {
            for (int i = 0; i < g.size; i++) {
                offsets[i] = box.cellOf(g.keys[i]);
            }
        }

        /** Adds a term times g, whose offsets in the box are found; at most 300 times 300 numbers come into one cell. */
        private void addTimes(Box box, int cell, int number, Poly g) {
            int[] cells = box.cells;
            for (int i = 0; i < g.size; i++) {
                cells[cell + offsets[i]] += number * g.numbers[i];
            }
        }

        Poly derivative(Poly f, int variable) {
            draft.clear();
            for (int i = 0; i < f.size; i++) {
                int exponent = Poly.exponent(f.keys[i], variable);
                if (exponent > 0) {
                    draft.push(f.keys[i] - Poly.unit(variable), f.numbers[i] * exponent % p);
                }
            }
            return draft.kept();
        }

        Poly part(Poly f, int degree) {
            draft.clear();
            for (int i = 0; i < f.size; i++) {
                if (Poly.degreeOf(f.keys[i]) == degree) {
                    draft.push(f.keys[i], f.numbers[i]);
                }
            }
            return draft.kept();
        }

        static int reducedExponent(int exponent, int p) {
            return exponent < p ? exponent : (exponent - 1) % (p - 1) + 1;
        }

        Poly reduced(Poly f) {
            int most = p - 1;
            products.open(Math.min(most, f.roomIn(0)), Math.min(most, f.roomIn(1)), Math.min(most, f.roomIn(2)));
            for (int i = 0; i < f.size; i++) {
                int key = 0;
                for (int variable = 0; variable < VARIABLES; variable++) {
                    key += reducedExponent(Poly.exponent(f.keys[i], variable), p) * Poly.unit(variable);
                }
                products.cells[products.cellOf(key)] += f.numbers[i];
            }
            products.readInto(draft, p);
            return draft.kept();
        }

        Poly turned(Poly f, int turn) {
            int room = 0;
            for (int variable = 0; variable < VARIABLES; variable++) {
                room += f.roomIn(variable) * Poly.unit(TURNS[turn * VARIABLES + variable]);
            }
            products.open(Poly.exponent(room, 0), Poly.exponent(room, 1), Poly.exponent(room, 2));
            for (int i = 0; i < f.size; i++) {
                int key = 0;
                for (int variable = 0; variable < VARIABLES; variable++) {
                    key += Poly.exponent(f.keys[i], variable) * Poly.unit(TURNS[turn * VARIABLES + variable]);
                }
                products.cells[products.cellOf(key)] = f.numbers[i];
            }
            products.readInto(draft, p);
            return draft.kept();
        }

        Poly putInto(Poly f, int variable, Poly g) {
            int most = f.roomIn(variable);
            for (int v = 0; v < VARIABLES; v++) {
                if (most * g.roomIn(v) > MOST_EXPONENT) {
                    return null;
                }
            }
            // EXPONENTS above 40 that cancel in the end are no harm, so there is room for them.
            sums.open(putRoom(f, variable, g, 0), putRoom(f, variable, g, 1), putRoom(f, variable, g, 2));
            running.clear();
            running.push(0, 1);
            for (int exponent = 0; exponent <= most; exponent++) {
                if (exponent > 0 && !multiply(running, g, running)) {
                    return null;
                }
                addPut(f, variable, exponent);
            }
            sums.readInto(draft, p);
            return draft.kept();
        }

        private static int putRoom(Poly f, int variable, Poly g, int v) {
            int each = g.roomIn(v);
            int most = 0;
            for (int i = 0; i < f.size; i++) {
                int stays = v == variable ? 0 : Poly.exponent(f.keys[i], v);
                most = Math.max(most, stays + each * Poly.exponent(f.keys[i], variable));
            }
            return most;
        }

        /** Adds those terms of f that have an exponent of the variable, the power that is running in place of it. */
        private void addPut(Poly f, int variable, int exponent) {
            int gone = exponent * Poly.unit(variable);
            findOffsets(running, sums);
            for (int i = 0; i < f.size; i++) {
                if (Poly.exponent(f.keys[i], variable) == exponent) {
                    addTimes(sums, sums.cellOf(f.keys[i] - gone), f.numbers[i], running);
                }
            }
        }

        Poly common(Poly f, Poly g) {
            int[] first = firstRow;
            int[] second = secondRow;
            int top = layOut(f, first);
            int secondTop = layOut(g, second);
            for (int round = 0; round <= 2 * MOST_EXPONENT + 2 && secondTop >= 0; round++) {
                int left = takeRemainder(first, top, second, secondTop);
                int[] row = first;
                first = second;
                second = row;
                top = secondTop;
                secondTop = left;
            }
            draft.clear();
            int times = top < 0 ? 0 : inverse(first[top]);
            for (int exponent = top; exponent >= 0; exponent--) {
                draft.push(Poly.key(exponent, 0, 0), first[exponent] * times % p);
            }
            return draft.kept();
        }

        private static int layOut(Poly f, int[] row) {
            Arrays.fill(row, 0);
            for (int i = 0; i < f.size; i++) {
                row[Poly.exponent(f.keys[i], 0)] = f.numbers[i];
            }
            return f.degreeIn(0);
        }

        /** Leaves in row what it is over by, and answers the degree of that. */
        private int takeRemainder(int[] row, int top, int[] by, int byTop) {
            int times = inverse(by[byTop]);
            for (int exponent = top; exponent >= byTop; exponent--) {
                int minus = p - row[exponent] * times % p;
                for (int k = 0; k <= byTop; k++) {
                    int at = exponent - byTop + k;
                    row[at] = (row[at] + minus * by[k]) % p;
                }
            }
            int left = Math.min(top, byTop - 1);
            while (left >= 0 && row[left] == 0) {
                left--;
            }
            return left;
        }

        private int inverse(int n) {
            for (int k = 1; k < p; k++) {
                if (n * k % p == 1) {
                    return k;
                }
            }
            return 0;
        }

        /** By 1 - (x - a)^(P - 1), which is 1 where x is a, and 0 elsewhere. */
        Poly fitTo(int[] values) {
            draft.clear();
            for (int exponent = p - 1; exponent > 0; exponent--) {
                int sum = 0;
                for (int a = 0; a < p; a++) {
                    sum += values[a] * raised(a, p - 1 - exponent, p);
                }
                draft.push(Poly.key(exponent, 0, 0), (p - sum % p) % p);
            }
            draft.push(0, values[0]);
            return draft.kept();
        }

        static int raised(int base, int n, int p) {
            int result = 1;
            for (int k = 0; k < n; k++) {
                result = result * base % p;
            }
            return result;
        }

        int valueAt(Poly f, int x, int y, int z) {
            int row = MOST_EXPONENT + 1;
            findPowers(x, 0);
            findPowers(y, row);
            findPowers(z, 2 * row);
            int sum = 0;
            for (int i = 0; i < f.size; i++) {
                int key = f.keys[i];
                int ofX = powersOfPoint[Poly.exponent(key, 0)];
                int ofY = powersOfPoint[row + Poly.exponent(key, 1)];
                int ofZ = powersOfPoint[2 * row + Poly.exponent(key, 2)];
                sum += f.numbers[i] * ofX * ofY * ofZ;
            }
            return sum % p;
        }

        private void findPowers(int n, int from) {
            powersOfPoint[from] = 1;
            for (int k = 1; k <= MOST_EXPONENT; k++) {
                powersOfPoint[from + k] = powersOfPoint[from + k - 1] * n % p;
            }
        }
    }

    /** The values of a difference of two polynomials at all points, by x, then y, then z. */
    private static final class Points {
        private final int[] values = new int[GREATEST_P * GREATEST_P * GREATEST_P];
        private final int[] row = new int[GREATEST_P];
        private int p = 2;
        private int all = 8;

        void load(Poly one, Poly other, int newP) {
            p = newP;
            all = p * p * p;
            Arrays.fill(values, 0, all, 0);
            addReduced(one, 1);
            addReduced(other, p - 1);
            // A polynomial in one variable after another becomes its row of values.
            for (int i = 0; i < p * p; i++) {
                spread(i * p, 1);
            }
            for (int i = 0; i < p * p; i++) {
                spread(i / p * p * p + i % p, p);
            }
            for (int i = 0; i < p * p; i++) {
                spread(i, p * p);
            }
        }

        private void addReduced(Poly f, int times) {
            for (int i = 0; i < f.size; i++) {
                int x = Ring.reducedExponent(Poly.exponent(f.keys[i], 0), p);
                int y = Ring.reducedExponent(Poly.exponent(f.keys[i], 1), p);
                int z = Ring.reducedExponent(Poly.exponent(f.keys[i], 2), p);
                int index = (x * p + y) * p + z;
                values[index] = (values[index] + times * f.numbers[i]) % p;
            }
        }

        private void spread(int from, int stride) {
            int top = NONE;
            for (int k = 0; k < p; k++) {
                row[k] = values[from + k * stride];
                top = row[k] == 0 ? top : k;
            }
            if (top <= 0) {
                fillRow(from, stride, row[0]);
                return;
            }
            for (int n = 0; n < p; n++) {
                int sum = 0;
                for (int k = top; k >= 0; k--) {
                    sum = (sum * n + row[k]) % p;
                }
                values[from + n * stride] = sum;
            }
        }

        private void fillRow(int from, int stride, int number) {
            for (int k = 0; k < p; k++) {
                values[from + k * stride] = number;
            }
        }

        int zeros() {
            int found = 0;
            for (int i = 0; i < all; i++) {
                found += values[i] == 0 ? 1 : 0;
            }
            return found;
        }

        int firstNotZero() {
            for (int i = 0; i < all; i++) {
                if (values[i] != 0) {
                    return i;
                }
            }
            return NONE;
        }

        private int stride(int variable) {
            return variable == 0 ? p * p : variable == 1 ? p : 1;
        }

        boolean isZeroOn(Line line) {
            int strideMain = stride(line.main);
            int strideFirst = stride(line.first);
            int strideSecond = stride(line.second);
            for (int i = 0; i < p; i++) {
                for (int k = 0; k < p; k++) {
                    int minus = (i * line.ofFirst + k * line.ofSecond + line.alone) % p;
                    int main = minus == 0 ? 0 : p - minus;
                    if (values[main * strideMain + i * strideFirst + k * strideSecond] != 0) {
                        return false;
                    }
                }
            }
            return true;
        }
    }

    /** A LINE: its main variable (with the number 1), the two other ones with their numbers, a number alone. */
    private static final class Line {
        int main;
        int first;
        int second;
        int ofFirst;
        int ofSecond;
        int alone;

        Line(int a, int b, int c, int d) {
            set(a, b, c, d);
        }

        void set(int a, int b, int c, int d) {
            main = a != 0 ? 0 : b != 0 ? 1 : 2;
            first = main == 0 ? 1 : 0;
            second = main == 2 ? 1 : 2;
            ofFirst = main == 0 ? b : 0;
            ofSecond = main == 2 ? 0 : c;
            alone = d;
        }

        boolean isVariable() {
            return ofFirst == 0 && ofSecond == 0 && alone == 0;
        }
    }

    /** The FACTORS of the polynomial that was asked last, and what is left of it. */
    private static final class Factors {
        static final int ROW = 5;

        final int[] rows = new int[ROW * MOST_DEGREE];
        int size = 0;
        private final Poly none = new Poly(0);
        private final Poly scratch = new Poly(MOST_TERMS);
        private final Points whole = new Points();
        private final Points highest = new Points();
        private final Box left = new Box();
        private final Box trial = new Box();
        private final int[] degrees = new int[VARIABLES];
        private int degree = 0;
        private final int[] timesOfVariable = new int[VARIABLES];
        private final Line line = new Line(1, 0, 0, 0);
        private int p = 2;
        private Poly found = null;

        void forget() {
            found = null;
        }

        void find(Poly f, int newP) {
            if (f == found) {
                return;
            }
            layOut(f, newP);
            size = 0;
            if (f.degree() > 0) {
                whole.load(f, none, p);
                loadHighest(f);
                for (int b = 0; b < p; b++) {
                    for (int c = 0; c < p; c++) {
                        tryLines(1, b, c);
                    }
                }
                for (int c = 0; c < p; c++) {
                    tryLines(0, 1, c);
                }
                tryLines(0, 0, 1);
            }
            found = f;
        }

        int inAll() {
            int sum = 0;
            for (int k = 0; k < size; k++) {
                sum += rows[k * ROW + 4];
            }
            return sum;
        }

        /** Of the polynomial that was found last. */
        Poly rest() {
            left.readInto(scratch, p);
            return scratch.kept();
        }

        int timesOf(Poly f, int newP, Line asked) {
            layOut(f, newP);
            // What was found of another one is gone with what was left of it.
            found = null;
            return takeOut(asked);
        }

        /** Without x, y and z, as often as they go in by themselves: no division is needed to see that. */
        private void layOut(Poly f, int newP) {
            p = newP;
            int gone = 0;
            for (int variable = 0; variable < VARIABLES; variable++) {
                int least = f.leastIn(variable);
                timesOfVariable[variable] = least;
                degrees[variable] = f.roomIn(variable) - least;
                gone += least * Poly.unit(variable);
            }
            degree = f.degree() - Poly.degreeOf(gone);
            left.open(degrees[0], degrees[1], degrees[2]);
            for (int i = 0; i < f.size; i++) {
                left.cells[left.cellOf(f.keys[i] - gone)] = f.numbers[i];
            }
        }

        private void loadHighest(Poly f) {
            int degree = f.degree();
            scratch.clear();
            for (int i = 0; i < f.size; i++) {
                if (Poly.degreeOf(f.keys[i]) == degree) {
                    scratch.push(f.keys[i], f.numbers[i]);
                }
            }
            highest.load(scratch, none, p);
        }

        /** Looks at values first: a FACTOR is 0 where its LINE is, and so are the TERMS of highest DEGREE of both. */
        private void tryLines(int a, int b, int c) {
            line.set(a, b, c, 0);
            if (!highest.isZeroOn(line)) {
                return;
            }
            for (int d = 0; d < p; d++) {
                line.set(a, b, c, d);
                int times = whole.isZeroOn(line) ? takeOut(line) : 0;
                if (times > 0 && size < MOST_DEGREE) {
                    note(a, b, c, d, times);
                }
            }
        }

        private void note(int a, int b, int c, int d, int times) {
            int from = size * ROW;
            rows[from] = a;
            rows[from + 1] = b;
            rows[from + 2] = c;
            rows[from + 3] = d;
            rows[from + 4] = times;
            size++;
        }

        private int takeOut(Line by) {
            if (by.isVariable()) {
                return timesOfVariable[by.main];
            }
            int times = 0;
            while (times <= MOST_EXPONENT && divide(by)) {
                times++;
            }
            return times;
        }

        private boolean canGoIn(Line by) {
            return degrees[by.main] > 0
                    && (by.ofFirst == 0 || degrees[by.first] > 0)
                    && (by.ofSecond == 0 || degrees[by.second] > 0);
        }

        /** Whether the line goes into what is left; then it is taken out of it once. */
        private boolean divide(Line by) {
            if (!canGoIn(by)) {
                return false;
            }
            trial.copyFrom(left);
            for (int m = degrees[by.main]; m > 0; m--) {
                if (!divideSlice(by, m)) {
                    return false;
                }
            }
            if (!isSliceZero(by)) {
                return false;
            }
            takeQuotient(by);
            degree--;
            degrees[by.main]--;
            degrees[by.first] -= by.ofFirst == 0 ? 0 : 1;
            degrees[by.second] -= by.ofSecond == 0 ? 0 : 1;
            left.narrow(degrees[0], degrees[1], degrees[2]);
            return true;
        }

        /** Takes the line, times what stands with main variable to the m, away; false if an EXPONENT gets greater than it may. */
        private boolean divideSlice(Line by, int m) {
            int[] cells = trial.cells;
            int strideMain = trial.strides[by.main];
            int strideFirst = trial.strides[by.first];
            int strideSecond = trial.strides[by.second];
            int minusFirst = by.ofFirst == 0 ? 0 : p - by.ofFirst;
            int minusSecond = by.ofSecond == 0 ? 0 : p - by.ofSecond;
            int minusAlone = by.alone == 0 ? 0 : p - by.alone;
            int mostFirst = degrees[by.first];
            int mostSecond = degrees[by.second];
            for (int i = 0; i <= Math.min(mostFirst, degree - m); i++) {
                int last = Math.min(mostSecond, degree - m - i);
                for (int k = 0; k <= last; k++) {
                    int cell = m * strideMain + i * strideFirst + k * strideSecond;
                    int number = cells[cell] % p;
                    cells[cell] = number;
                    if (number == 0) {
                        continue;
                    }
                    // The quotient's EXPONENTS are less than those that are left, or the line doesn't go in.
                    if (minusFirst != 0 && i == mostFirst || minusSecond != 0 && k == mostSecond) {
                        return false;
                    }
                    int below = cell - strideMain;
                    cells[below] += minusAlone * number;
                    if (minusFirst != 0) {
                        cells[below + strideFirst] += minusFirst * number;
                    }
                    if (minusSecond != 0) {
                        cells[below + strideSecond] += minusSecond * number;
                    }
                }
            }
            return true;
        }

        private boolean isSliceZero(Line by) {
            int strideFirst = trial.strides[by.first];
            int strideSecond = trial.strides[by.second];
            for (int i = 0; i <= degrees[by.first]; i++) {
                int last = Math.min(degrees[by.second], degree - i);
                for (int k = 0; k <= last; k++) {
                    if (trial.cells[i * strideFirst + k * strideSecond] % p != 0) {
                        return false;
                    }
                }
            }
            return true;
        }

        /** The quotient stands in the trial, with the main variable once too often. */
        private void takeQuotient(Line by) {
            int strideMain = trial.strides[by.main];
            int strideFirst = trial.strides[by.first];
            int strideSecond = trial.strides[by.second];
            for (int m = 0; m <= degrees[by.main]; m++) {
                boolean isTop = m == degrees[by.main];
                for (int i = 0; i <= Math.min(degrees[by.first], degree - m); i++) {
                    int last = Math.min(degrees[by.second], degree - m - i);
                    for (int k = 0; k <= last; k++) {
                        int cell = m * strideMain + i * strideFirst + k * strideSecond;
                        left.cells[cell] = isTop ? 0 : trial.cells[cell + strideMain];
                    }
                }
            }
        }
    }

    /** The steps of a program. An atom is a number below VARIABLE, a variable from there on, or a step from STEP on. */
    private static final class Program {
        static final int NO_SIGN = 0;
        static final int VARIABLE = 100;
        static final int STEP = VARIABLE + VARIABLES;
        static final int MOST_BOUND = 999999;

        int size = 0;
        final int[] names = new int[MOST_STEPS];
        final int[] signs = new int[MOST_STEPS];
        final int[] lefts = new int[MOST_STEPS];
        final int[] rights = new int[MOST_STEPS];
        final int[] bounds = new int[MOST_STEPS];
        final Poly[] makes = new Poly[MOST_STEPS];
        final int[] values = new int[MOST_STEPS];
        private final int[] turns = new int[MOST_STEPS];
        private final int[] point = new int[VARIABLES];

        /** False: a step is TOO MUCH. */
        boolean run(Ring ring) {
            for (int s = 0; s < size; s++) {
                bounds[s] = boundOf(s);
                Poly made = atomPoly(lefts[s], ring.p);
                if (signs[s] == '^') {
                    made = ring.power(made, rights[s]);
                } else if (signs[s] == '*') {
                    made = ring.product(made, atomPoly(rights[s], ring.p));
                } else if (signs[s] != NO_SIGN) {
                    made = ring.sum(made, atomPoly(rights[s], ring.p), signs[s] == '+' ? 1 : ring.p - 1);
                }
                if (made == null) {
                    return false;
                }
                makes[s] = made;
            }
            return true;
        }

        private int boundOf(int s) {
            int left = atomBound(lefts[s]);
            int right = atomBound(rights[s]);
            switch (signs[s]) {
                case '+':
                case '-':
                    return Math.max(left, right);
                case '*':
                    return Math.min(left + right, MOST_BOUND);
                case '^':
                    return Math.min(left * rights[s], MOST_BOUND);
                default:
                    return left;
            }
        }

        private int atomBound(int atom) {
            if (atom < VARIABLE) {
                return 0;
            }
            return atom < STEP ? 1 : bounds[atom - STEP];
        }

        private Poly atomPoly(int atom, int p) {
            if (atom < VARIABLE) {
                return Poly.single(0, atom % p);
            }
            return atom < STEP ? Poly.single(Poly.unit(atom - VARIABLE), 1) : makes[atom - STEP];
        }

        boolean lastStandsOn(int step) {
            Arrays.fill(turns, 0);
            turns[size - 1] = 1;
            for (int s = size - 1; s > step; s--) {
                if (turns[s] != 0) {
                    mark(lefts[s]);
                    mark(rights[s]);
                }
            }
            return turns[step] != 0;
        }

        private void mark(int atom) {
            if (atom >= STEP) {
                turns[atom - STEP] = 1;
            }
        }

        int firstLike(int step) {
            for (int s = 0; s < step; s++) {
                if (makes[s].isLike(makes[step])) {
                    return s;
                }
            }
            return step;
        }

        int usersOf(int step) {
            int users = 0;
            for (int s = step + 1; s < size; s++) {
                if (lefts[s] == STEP + step || rights[s] == STEP + step) {
                    users++;
                }
            }
            return users;
        }

        void findValues(int x, int y, int z, int p) {
            point[0] = x;
            point[1] = y;
            point[2] = z;
            for (int s = 0; s < size; s++) {
                values[s] = stepValue(s, p);
            }
        }

        private int stepValue(int s, int p) {
            int left = atomValue(lefts[s], p);
            int right = atomValue(rights[s], p);
            switch (signs[s]) {
                case '+':
                    return (left + right) % p;
                case '-':
                    return (left + p - right) % p;
                case '*':
                    return left * right % p;
                case '^':
                    return Ring.raised(left, rights[s], p);
                default:
                    return left;
            }
        }

        private int atomValue(int atom, int p) {
            if (atom < VARIABLE) {
                return atom % p;
            }
            return atom < STEP ? point[atom - VARIABLE] : values[atom - STEP];
        }

        /** Behind findValues: from the last step back each hands to its atoms how it turns on them. */
        int turnOf(int step, int p) {
            Arrays.fill(turns, 0);
            turns[size - 1] = 1;
            for (int s = size - 1; s > step; s--) {
                handBack(s, p);
            }
            return turns[step];
        }

        private void handBack(int s, int p) {
            int turn = turns[s];
            int left = atomValue(lefts[s], p);
            int right = atomValue(rights[s], p);
            switch (signs[s]) {
                case '+':
                    hand(lefts[s], turn, p);
                    hand(rights[s], turn, p);
                    break;
                case '-':
                    hand(lefts[s], turn, p);
                    hand(rights[s], turn * (p - 1), p);
                    break;
                case '*':
                    hand(lefts[s], turn * right, p);
                    hand(rights[s], turn * left, p);
                    break;
                case '^':
                    hand(lefts[s], turn * rights[s] * Ring.raised(left, rights[s] - 1, p), p);
                    break;
                default:
                    hand(lefts[s], turn, p);
            }
        }

        private void hand(int atom, int turn, int p) {
            if (atom >= STEP) {
                turns[atom - STEP] = (turns[atom - STEP] + turn) % p;
            }
        }
    }

    /** Reads a text token by token into a program, up to its first fault. */
    private static final class Reader {
        static final int FINE = 0;
        static final int CANNOT_STAND = 1;
        static final int WRONG_NUMBER = 2;
        static final int WRONG_NAME = 3;

        // Kinds of tokens beside the bytes that are ones by themselves.
        private static final int NUMBER = 256;
        private static final int END = 257;

        // What may come next.
        private static final int FIRST_NAME = 0;
        private static final int NAME_OR_END = 1;
        private static final int EQUALS = 2;
        private static final int LEFT = 3;
        private static final int SIGN = 4;
        private static final int RIGHT = 5;
        private static final int EXPONENT = 6;
        private static final int STEP_END = 7;

        private static final int MOST_NUMBER = 99;
        private static final int FAR_TOO_GREAT = 1000;

        int start = 0;
        private final int[] text;
        private final int length;
        private final Program told;
        private final int[] stepNamed = new int[MOST_STEPS];
        private int next = 0;
        private int token = END;
        private int number = 0;
        private int state = FIRST_NAME;

        Reader(int[] text, int length, Program told) {
            this.text = text;
            this.length = length;
            this.told = told;
            Arrays.fill(stepNamed, NONE);
        }

        /** FINE, or the fault; then start is its place. */
        int read() {
            // Each token but the end takes a byte at least.
            for (int i = 0; i <= length; i++) {
                readToken();
                int fault = take();
                if (fault != FINE || token == END) {
                    return fault;
                }
            }
            return CANNOT_STAND;
        }

        private void readToken() {
            while (next < length && (text[next] == ' ' || text[next] == '\n')) {
                next++;
            }
            start = next;
            if (next >= length) {
                token = END;
            } else if (isFigure(text[next])) {
                token = NUMBER;
                readNumber();
            } else {
                token = text[next];
                next++;
            }
        }

        private static boolean isFigure(int b) {
            return b >= '0' && b <= '9';
        }

        private void readNumber() {
            number = 0;
            while (next < length && isFigure(text[next])) {
                number = Math.min(number * 10 + text[next] - '0', FAR_TOO_GREAT);
                next++;
            }
        }

        private int take() {
            switch (state) {
                case FIRST_NAME:
                case NAME_OR_END:
                    return takeName();
                case EQUALS:
                    return token == '=' ? go(LEFT) : CANNOT_STAND;
                case LEFT:
                case RIGHT:
                    return takeAtom();
                case SIGN:
                    return takeSign();
                case EXPONENT:
                    return takeExponent();
                default:
                    return takeStepEnd();
            }
        }

        private int go(int newState) {
            state = newState;
            return FINE;
        }

        private int takeName() {
            if (token == END && state == NAME_OR_END) {
                return FINE;
            }
            if (token < 'a' || token > 'w') {
                return CANNOT_STAND;
            }
            // With all NAMES told there is no room for a step more, and each NAME is one told already.
            if (stepNamed[token - 'a'] != NONE || told.size >= MOST_STEPS) {
                return WRONG_NAME;
            }
            told.names[told.size] = token - 'a' + 1;
            return go(EQUALS);
        }

        private int takeAtom() {
            if (token == NUMBER) {
                return number > MOST_NUMBER ? WRONG_NUMBER : setAtom(number);
            }
            if (token < 'a' || token > 'z') {
                return CANNOT_STAND;
            }
            if (token >= 'x') {
                return setAtom(Program.VARIABLE + token - 'x');
            }
            int step = stepNamed[token - 'a'];
            return step == NONE ? WRONG_NAME : setAtom(Program.STEP + step);
        }

        private int setAtom(int atom) {
            if (state == LEFT) {
                told.lefts[told.size] = atom;
                return go(SIGN);
            }
            told.rights[told.size] = atom;
            return go(STEP_END);
        }

        private int takeSign() {
            if (token == '+' || token == '-' || token == '*' || token == '^') {
                told.signs[told.size] = token;
                return go(token == '^' ? EXPONENT : RIGHT);
            }
            return takeStepEnd();
        }

        private int takeExponent() {
            if (token != NUMBER) {
                return CANNOT_STAND;
            }
            if (number > MOST_POWER) {
                return WRONG_NUMBER;
            }
            told.rights[told.size] = number;
            return go(STEP_END);
        }

        private int takeStepEnd() {
            if (token != ';' && token != END) {
                return CANNOT_STAND;
            }
            stepNamed[told.names[told.size] - 1] = told.size;
            told.size++;
            return go(NAME_OR_END);
        }
    }

    /** The latest acts: of each the place and what it had before. */
    private static final class Acts {
        static final int MOST = 20;

        int size = 0;
        private int next = 0;
        private final int[] where = new int[MOST];
        private final Poly[] before = new Poly[MOST];

        void forget() {
            size = 0;
        }

        void note(int place, Poly had) {
            where[next] = place;
            before[next] = had;
            next = next == MOST - 1 ? 0 : next + 1;
            size = Math.min(size + 1, MOST);
        }

        /** Only while there is one. */
        void takeBack(Poly[] places) {
            next = next == 0 ? MOST - 1 : next - 1;
            size--;
            places[where[next]] = before[next];
        }
    }

    /** The terms of a polynomial sorted by an ORDER. */
    private static final class Order {
        private static final int INDEX_BITS = 9;
        private static final int INDEX_MASK = 511;

        private final int[] codes = new int[MOST_TERMS];

        int indexOf(int i) {
            return codes[i] & INDEX_MASK;
        }

        void sort(Poly f, int order) {
            for (int i = 0; i < f.size; i++) {
                codes[i] = (rank(f.keys[i], order) << INDEX_BITS) | i;
            }
            if (order == 1) {
                return;
            }
            for (int gap = f.size / 2; gap > 0; gap /= 2) {
                for (int i = gap; i < f.size; i++) {
                    sink(i, gap);
                }
            }
        }

        private static int rank(int key, int order) {
            switch (order) {
                case 0:
                    // With like DEGREES, x and y alike, z is alike too.
                    return (Poly.degreeOf(key) << (2 * Poly.BITS)) | (key >> Poly.BITS);
                case 1:
                    return key;
                default:
                    return Poly.key(Poly.exponent(key, 2), Poly.exponent(key, 1), Poly.exponent(key, 0));
            }
        }

        private void sink(int from, int gap) {
            int code = codes[from];
            int at = from;
            while (at >= gap && codes[at - gap] < code) {
                codes[at] = codes[at - gap];
                at -= gap;
            }
            codes[at] = code;
        }
    }

    /** What was SAID last. */
    private static final class Speech {
        // A term is 12*x^40*y^40*z^40 with its + at the longest.
        private static final int MOST = 18 * MOST_TERMS;

        int length = 0;
        final byte[] bytes = new byte[MOST];

        void write(Poly f, Order order) {
            length = 0;
            for (int i = 0; i < f.size; i++) {
                if (i > 0) {
                    writeByte('+');
                }
                int index = order.indexOf(i);
                writeTerm(f.keys[index], f.numbers[index]);
            }
            if (f.size == 0) {
                writeByte('0');
            }
        }

        private void writeTerm(int key, int number) {
            boolean started = number != 1 || key == 0;
            if (started) {
                writeNumber(number);
            }
            for (int variable = 0; variable < VARIABLES; variable++) {
                int exponent = Poly.exponent(key, variable);
                if (exponent == 0) {
                    continue;
                }
                if (started) {
                    writeByte('*');
                }
                started = true;
                writeByte('x' + variable);
                if (exponent > 1) {
                    writeByte('^');
                    writeNumber(exponent);
                }
            }
        }

        private void writeNumber(int number) {
            if (number >= 10) {
                writeByte('0' + number / 10);
            }
            writeByte('0' + number % 10);
        }

        private void writeByte(int b) {
            if (length < bytes.length) {
                bytes[length] = (byte) b;
                length++;
            }
        }
    }
}
