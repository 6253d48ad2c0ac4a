import java.util.ArrayDeque;
import java.util.ArrayList;
import java.util.Comparator;
import java.util.HashMap;
import java.util.List;
import java.util.Map;
import java.util.NoSuchElementException;
import java.util.TreeMap;

/** The document again, slowly and by other ways, with maps from exponents to numbers; exponents have no bound inside. */
final class Naive {
    private static final int NONE = -1;
    private static final int[] SIZES = {2, 3, 5, 7, 11, 13};
    private static final int[][] TURNS = {{0, 1, 2}, {0, 2, 1}, {1, 0, 2}, {1, 2, 0}, {2, 0, 1}, {2, 1, 0}};

    private int p = 5;
    private final List<TreeMap<List<Integer>, Integer>> places = new ArrayList<>();
    private final StringBuilder tape = new StringBuilder();
    private final ArrayDeque<Object[]> acts = new ArrayDeque<>();
    private List<Step> program = new ArrayList<>();
    private int faultPlace = NONE;
    private String said = "";
    private final Map<TreeMap<List<Integer>, Integer>, List<int[]>> factorsKnown = new HashMap<>();

    /** One step as its tokens. */
    private static final class Step {
        char name;
        String left;
        char sign = ' ';
        String right = "";
        TreeMap<List<Integer>, Integer> makes;
        int bound;
    }

    private static final class TooMuch extends RuntimeException {
        private static final long serialVersionUID = 1L;
    }

    private static final class Fault extends RuntimeException {
        private static final long serialVersionUID = 1L;
        final int kind;
        final int place;

        Fault(int kind, int place) {
            this.kind = kind;
            this.place = place;
        }
    }

    Naive() {
        clearPlaces();
    }

    private void clearPlaces() {
        places.clear();
        for (int i = 0; i < 6; i++) {
            places.add(new TreeMap<>(byOrder(1)));
        }
    }

    // ---- polynomials

    static Comparator<List<Integer>> byOrder(int order) {
        return (a, b) -> {
            int[] first = rank(a, order);
            int[] second = rank(b, order);
            for (int i = 0; i < 4; i++) {
                if (first[i] != second[i]) {
                    return second[i] - first[i];
                }
            }
            return 0;
        };
    }

    private static int[] rank(List<Integer> m, int order) {
        int x = m.get(0);
        int y = m.get(1);
        int z = m.get(2);
        return order == 0 ? new int[] {x + y + z, x, y, z} : order == 1 ? new int[] {x, y, z, 0} : new int[] {z, y, x, 0};
    }

    private TreeMap<List<Integer>, Integer> none() {
        return new TreeMap<>(byOrder(1));
    }

    private void addTo(TreeMap<List<Integer>, Integer> f, List<Integer> m, int n) {
        int sum = Math.floorMod(f.getOrDefault(m, 0) + n, p);
        if (sum == 0) {
            f.remove(m);
        } else {
            f.put(m, sum);
        }
    }

    private TreeMap<List<Integer>, Integer> constant(int n) {
        TreeMap<List<Integer>, Integer> f = none();
        addTo(f, List.of(0, 0, 0), n);
        return f;
    }

    private TreeMap<List<Integer>, Integer> variable(int v) {
        TreeMap<List<Integer>, Integer> f = none();
        addTo(f, List.of(v == 0 ? 1 : 0, v == 1 ? 1 : 0, v == 2 ? 1 : 0), 1);
        return f;
    }

    private TreeMap<List<Integer>, Integer> plus(TreeMap<List<Integer>, Integer> f, TreeMap<List<Integer>, Integer> g, int times) {
        TreeMap<List<Integer>, Integer> sum = none();
        f.forEach((m, n) -> addTo(sum, m, n));
        g.forEach((m, n) -> addTo(sum, m, n * times));
        return sum;
    }

    private TreeMap<List<Integer>, Integer> times(TreeMap<List<Integer>, Integer> f, TreeMap<List<Integer>, Integer> g) {
        TreeMap<List<Integer>, Integer> product = none();
        f.forEach((m, n) -> g.forEach((k, l) ->
                addTo(product, List.of(m.get(0) + k.get(0), m.get(1) + k.get(1), m.get(2) + k.get(2)), n * l)));
        return product;
    }

    private TreeMap<List<Integer>, Integer> checked(TreeMap<List<Integer>, Integer> f) {
        if (f.size() > 300 || f.keySet().stream().anyMatch(m -> m.stream().anyMatch(e -> e > 40))) {
            throw new TooMuch();
        }
        return f;
    }

    private TreeMap<List<Integer>, Integer> power(TreeMap<List<Integer>, Integer> f, int n) {
        TreeMap<List<Integer>, Integer> made = constant(1);
        for (int k = 0; k < n; k++) {
            made = checked(times(made, f));
        }
        return made;
    }

    private static int degreeOf(List<Integer> m) {
        return m.get(0) + m.get(1) + m.get(2);
    }

    private static int degree(TreeMap<List<Integer>, Integer> f) {
        return f.keySet().stream().mapToInt(Naive::degreeOf).max().orElse(NONE);
    }

    private static int degreeIn(TreeMap<List<Integer>, Integer> f, int v) {
        return f.keySet().stream().mapToInt(m -> m.get(v)).max().orElse(NONE);
    }

    private int valueOf(TreeMap<List<Integer>, Integer> f, int x, int y, int z) {
        int[] point = {x, y, z};
        int sum = 0;
        for (Map.Entry<List<Integer>, Integer> t : f.entrySet()) {
            int product = t.getValue();
            for (int v = 0; v < 3; v++) {
                for (int k = 0; k < t.getKey().get(v); k++) {
                    product = product * point[v] % p;
                }
            }
            sum += product;
        }
        return sum % p;
    }

    private TreeMap<List<Integer>, Integer> line(int a, int b, int c, int d) {
        TreeMap<List<Integer>, Integer> f = constant(d);
        f = plus(f, variable(0), a);
        f = plus(f, variable(1), b);
        return plus(f, variable(2), c);
    }

    /** f by a line, or null if it doesn't go in: long division by the line's first variable. */
    private TreeMap<List<Integer>, Integer> by(TreeMap<List<Integer>, Integer> f, int[] l) {
        int v = l[0] != 0 ? 0 : l[1] != 0 ? 1 : 2;
        TreeMap<List<Integer>, Integer> left = plus(f, none(), 1);
        TreeMap<List<Integer>, Integer> quotient = none();
        TreeMap<List<Integer>, Integer> divisor = line(l[0], l[1], l[2], l[3]);
        for (int e = degreeIn(f, v); e > 0; e--) {
            TreeMap<List<Integer>, Integer> slice = none();
            for (Map.Entry<List<Integer>, Integer> t : left.entrySet()) {
                if (t.getKey().get(v) == e) {
                    List<Integer> m = new ArrayList<>(t.getKey());
                    m.set(v, e - 1);
                    addTo(slice, List.copyOf(m), t.getValue());
                }
            }
            quotient = plus(quotient, slice, 1);
            left = plus(left, times(slice, divisor), -1);
        }
        return left.isEmpty() ? quotient : null;
    }

    private int oftenIn(TreeMap<List<Integer>, Integer> f, int[] l) {
        int n = 0;
        for (TreeMap<List<Integer>, Integer> g = by(f, l); g != null; g = by(g, l)) {
            n++;
        }
        return n;
    }

    private List<int[]> factors(TreeMap<List<Integer>, Integer> f) {
        List<int[]> known = factorsKnown.get(f);
        if (known != null) {
            return known;
        }
        List<int[]> found = new ArrayList<>();
        if (degree(f) > 0) {
            for (int kind = 0; kind < 3; kind++) {
                for (int b = 0; b < (kind == 0 ? p : 1); b++) {
                    for (int c = 0; c < (kind <= 1 ? p : 1); c++) {
                        for (int d = 0; d < p; d++) {
                            int[] l = {kind == 0 ? 1 : 0, kind == 0 ? b : kind == 1 ? 1 : 0, kind <= 1 ? c : 1, d, 0};
                            l[4] = oftenIn(f, l);
                            if (l[4] > 0) {
                                found.add(l);
                            }
                        }
                    }
                }
            }
        }
        factorsKnown.put(f, found);
        return found;
    }

    private int inverse(int n) {
        int k = 1;
        while (n * k % p != 1) {
            k++;
        }
        return k;
    }

    private TreeMap<List<Integer>, Integer> common(TreeMap<List<Integer>, Integer> f, TreeMap<List<Integer>, Integer> g) {
        while (!g.isEmpty()) {
            TreeMap<List<Integer>, Integer> left = f;
            while (degree(left) >= degree(g)) {
                TreeMap<List<Integer>, Integer> shift = none();
                addTo(shift, List.of(degree(left) - degree(g), 0, 0), left.firstEntry().getValue() * inverse(g.firstEntry().getValue()));
                left = plus(left, times(shift, g), -1);
            }
            f = g;
            g = left;
        }
        return f.isEmpty() ? f : times(f, constant(inverse(f.firstEntry().getValue())));
    }

    // ---- programs

    private List<Step> parse(String text) {
        List<String> tokens = new ArrayList<>();
        List<Integer> at = new ArrayList<>();
        for (int i = 0; i < text.length(); i++) {
            char ch = text.charAt(i);
            if (ch == ' ' || ch == 10) {
                continue;
            }
            int end = i + 1;
            while (Character.digit(ch, 10) >= 0 && ch < 128 && end < text.length() && text.charAt(end) >= '0' && text.charAt(end) <= '9') {
                end++;
            }
            tokens.add(text.substring(i, end));
            at.add(i);
            i = end - 1;
        }
        tokens.add("");
        at.add(text.length());
        List<Step> steps = new ArrayList<>();
        int t = 0;
        while (true) {
            Step s = new Step();
            String name = tokens.get(t);
            if (name.isEmpty() && t > 0) {
                return steps;
            }
            if (!name.matches("[a-w]")) {
                throw new Fault(1, at.get(t));
            }
            s.name = name.charAt(0);
            if (find(steps, s.name) >= 0) {
                throw new Fault(3, at.get(t));
            }
            t++;
            if (!tokens.get(t).equals("=")) {
                throw new Fault(1, at.get(t));
            }
            t++;
            s.left = atom(tokens.get(t), at.get(t), steps);
            t++;
            if (tokens.get(t).matches("[-+*]")) {
                s.sign = tokens.get(t).charAt(0);
                t++;
                s.right = atom(tokens.get(t), at.get(t), steps);
                t++;
            } else if (tokens.get(t).equals("^")) {
                s.sign = '^';
                t++;
                if (!tokens.get(t).matches("[0-9]+")) {
                    throw new Fault(1, at.get(t));
                }
                if (!tokens.get(t).matches("0*[0-9]")) {
                    throw new Fault(2, at.get(t));
                }
                s.right = tokens.get(t);
                t++;
            }
            steps.add(s);
            if (tokens.get(t).isEmpty()) {
                return steps;
            }
            if (!tokens.get(t).equals(";")) {
                throw new Fault(1, at.get(t));
            }
            t++;
        }
    }

    private static int find(List<Step> steps, char name) {
        for (int i = 0; i < steps.size(); i++) {
            if (steps.get(i).name == name) {
                return i;
            }
        }
        return NONE;
    }

    private static String atom(String token, int at, List<Step> steps) {
        if (token.matches("[0-9]+")) {
            if (!token.matches("0*[0-9]{1,2}")) {
                throw new Fault(2, at);
            }
            return token;
        }
        if (!token.matches("[a-z]")) {
            throw new Fault(1, at);
        }
        if (token.charAt(0) < 'x' && find(steps, token.charAt(0)) < 0) {
            throw new Fault(3, at);
        }
        return token;
    }

    private static boolean isName(String atom) {
        return atom.matches("[a-w]");
    }

    private TreeMap<List<Integer>, Integer> polyOf(String atom, List<Step> steps) {
        if (Character.isDigit(atom.charAt(0))) {
            return constant(Integer.parseInt(atom));
        }
        return isName(atom) ? steps.get(find(steps, atom.charAt(0))).makes : variable(atom.charAt(0) - 'x');
    }

    private static int boundOf(String atom, List<Step> steps) {
        return isName(atom) ? steps.get(find(steps, atom.charAt(0))).bound : atom.matches("[x-z]") ? 1 : 0;
    }

    private void run(List<Step> steps) {
        for (Step s : steps) {
            TreeMap<List<Integer>, Integer> left = polyOf(s.left, steps);
            int bound = boundOf(s.left, steps);
            switch (s.sign) {
                case '+', '-' -> {
                    s.makes = checked(plus(left, polyOf(s.right, steps), s.sign == '+' ? 1 : -1));
                    bound = Math.max(bound, boundOf(s.right, steps));
                }
                case '*' -> {
                    s.makes = checked(times(left, polyOf(s.right, steps)));
                    bound += boundOf(s.right, steps);
                }
                case '^' -> {
                    s.makes = power(left, Integer.parseInt(s.right));
                    bound *= Integer.parseInt(s.right);
                }
                default -> s.makes = left;
            }
            s.bound = Math.min(bound, 999999);
        }
    }

    /** Value and slope of all steps going forward, where one step is a variable of its own with slope 1. */
    private int[][] forward(int own, int x, int y, int z) {
        int[][] all = new int[program.size()][];
        for (int i = 0; i < program.size(); i++) {
            Step s = program.get(i);
            int[] left = pair(s.left, all, x, y, z);
            int[] made = left;
            if (s.sign == '^') {
                made = new int[] {1, 0};
                for (int k = 0; k < Integer.parseInt(s.right); k++) {
                    made = new int[] {made[0] * left[0] % p, (made[0] * left[1] + made[1] * left[0]) % p};
                }
            } else if (s.sign != ' ') {
                int[] right = pair(s.right, all, x, y, z);
                int sign = s.sign == '-' ? -1 : 1;
                made = s.sign == '*'
                        ? new int[] {left[0] * right[0] % p, (left[0] * right[1] + left[1] * right[0]) % p}
                        : new int[] {Math.floorMod(left[0] + sign * right[0], p), Math.floorMod(left[1] + sign * right[1], p)};
            }
            all[i] = i == own ? new int[] {made[0], 1} : made;
        }
        return all;
    }

    private int[] pair(String atom, int[][] all, int x, int y, int z) {
        if (isName(atom)) {
            return all[find(program, atom.charAt(0))];
        }
        return new int[] {atom.equals("x") ? x : atom.equals("y") ? y : atom.equals("z") ? z : Integer.parseInt(atom) % p, 0};
    }

    private boolean standsOn(int from, int step) {
        if (from == step) {
            return true;
        }
        Step s = program.get(from);
        return isName(s.left) && standsOn(find(program, s.left.charAt(0)), step)
                || isName(s.right) && standsOn(find(program, s.right.charAt(0)), step);
    }

    // ---- the face

    int field(int newP) {
        for (int size : SIZES) {
            if (size == newP) {
                int before = p;
                p = newP;
                clearPlaces();
                acts.clear();
                program = new ArrayList<>();
                factorsKnown.clear();
                return before;
            }
        }
        return NONE;
    }

    int feed(int a, int b, int c, int d, int e) {
        if (tape.length() > 180) {
            return NONE;
        }
        for (int n : new int[] {a, b, c, d, e}) {
            tape.append((char) (n >>> 24)).append((char) (n >>> 16 & 255)).append((char) (n >>> 8 & 255)).append((char) (n & 255));
        }
        return tape.length();
    }

    int tell(int place, int n) {
        if (place < 0 || place > 5 || n < 0 || n > tape.length()) {
            throw new IllegalArgumentException();
        }
        String text = tape.substring(0, n);
        tape.setLength(0);
        faultPlace = NONE;
        try {
            List<Step> steps = parse(text);
            run(steps);
            program = steps;
            return keep(place, steps.get(steps.size() - 1).makes);
        } catch (Fault fault) {
            faultPlace = fault.place;
            return -10 - fault.kind;
        } catch (TooMuch much) {
            return -2;
        }
    }

    private int keep(int place, TreeMap<List<Integer>, Integer> f) {
        acts.addLast(new Object[] {place, places.get(place)});
        if (acts.size() > 20) {
            acts.removeFirst();
        }
        places.set(place, f);
        return f.size();
    }

    int fault() {
        return faultPlace;
    }

    int count(int what) {
        return switch (what) {
            case 0 -> p;
            case 1 -> program.size();
            case 2 -> tape.length();
            case 3 -> acts.size();
            default -> throw new NoSuchElementException();
        };
    }

    int step(int step, int what) {
        if (step < 0 || step >= program.size() || what < 0 || what > 6) {
            throw new NoSuchElementException();
        }
        Step s = program.get(step);
        switch (what) {
            case 0:
                return s.bound;
            case 1:
                return degree(s.makes);
            case 2:
                return s.makes.size();
            case 3:
                return s.name - 'a' + 1;
            case 4:
                return standsOn(program.size() - 1, step) ? 1 : 0;
            case 5:
                int first = 0;
                while (!program.get(first).makes.equals(s.makes)) {
                    first++;
                }
                return first;
            default:
                String name = String.valueOf(s.name);
                return (int) program.stream().filter(o -> o.left.equals(name) || o.right.equals(name)).count();
        }
    }

    private void checkPoint(int x, int y, int z) {
        if (x < 0 || y < 0 || z < 0 || x >= p || y >= p || z >= p) {
            throw new IllegalArgumentException();
        }
    }

    int at(int step, boolean back, int x, int y, int z) {
        if (step < 0 || step >= program.size()) {
            throw new NoSuchElementException();
        }
        checkPoint(x, y, z);
        return back ? forward(step, x, y, z)[program.size() - 1][1] : forward(NONE, x, y, z)[step][0];
    }

    int make(int place, int how, int i, int j) {
        if (place < 0 || place > 5 || i < 0 || i > 5 || how < 0 || how > 9) {
            return NONE;
        }
        int[] most = {5, 5, 5, 2, 9, 120, 0, 0, 5, 5};
        if (how != 6 && how != 7 && (j < 0 || j > most[how])) {
            return NONE;
        }
        TreeMap<List<Integer>, Integer> f = places.get(i);
        if (how == 7 && f.isEmpty()) {
            return NONE;
        }
        if (how == 8) {
            TreeMap<List<Integer>, Integer> g = places.get(j);
            if (degreeIn(f, 1) > 0 || degreeIn(f, 2) > 0 || degreeIn(g, 1) > 0 || degreeIn(g, 2) > 0) {
                return NONE;
            }
        }
        try {
            return keep(place, checked(made(how, f, j)));
        } catch (TooMuch much) {
            return -2;
        }
    }

    private TreeMap<List<Integer>, Integer> made(int how, TreeMap<List<Integer>, Integer> f, int j) {
        TreeMap<List<Integer>, Integer> result = none();
        switch (how) {
            case 0:
                return plus(f, places.get(j), 1);
            case 1:
                return plus(f, places.get(j), -1);
            case 2:
                return times(f, places.get(j));
            case 3:
                f.forEach((m, n) -> {
                    List<Integer> less = new ArrayList<>(m);
                    less.set(j, m.get(j) - 1);
                    if (m.get(j) > 0) {
                        addTo(result, List.copyOf(less), n * m.get(j));
                    }
                });
                return result;
            case 4:
                return power(f, j);
            case 5:
                f.forEach((m, n) -> addTo(result, m, degreeOf(m) == j ? n : 0));
                return result;
            case 6:
                f.forEach((m, n) -> addTo(result, List.of(reduce(m.get(0)), reduce(m.get(1)), reduce(m.get(2))), n));
                return result;
            case 7:
                TreeMap<List<Integer>, Integer> left = f;
                for (int[] l : factors(f)) {
                    for (int k = 0; k < l[4]; k++) {
                        left = by(left, l);
                    }
                }
                return left;
            case 8:
                return common(f, places.get(j));
            default:
                f.forEach((m, n) -> {
                    Integer[] turned = new Integer[3];
                    for (int v = 0; v < 3; v++) {
                        turned[TURNS[j][v]] = m.get(v);
                    }
                    addTo(result, List.of(turned), n);
                });
                return result;
        }
    }

    private int reduce(int e) {
        while (e >= p) {
            e -= p - 1;
        }
        return e;
    }

    int put(int place, int i, int variable, int j) {
        if (place < 0 || place > 5 || i < 0 || i > 5 || j < 0 || j > 5 || variable < 0 || variable > 2) {
            return NONE;
        }
        TreeMap<List<Integer>, Integer> f = places.get(i);
        TreeMap<List<Integer>, Integer> sum = none();
        try {
            TreeMap<List<Integer>, Integer> power = constant(1);
            for (int e = 0; e <= degreeIn(f, variable); e++) {
                TreeMap<List<Integer>, Integer> with = none();
                for (Map.Entry<List<Integer>, Integer> t : f.entrySet()) {
                    List<Integer> m = new ArrayList<>(t.getKey());
                    if (m.set(variable, 0) == e) {
                        addTo(with, List.copyOf(m), t.getValue());
                    }
                }
                sum = plus(sum, times(with, power), 1);
                if (e < degreeIn(f, variable)) {
                    power = checked(times(power, places.get(j)));
                }
            }
            return keep(place, checked(sum));
        } catch (TooMuch much) {
            return -2;
        }
    }

    int fit(int place) {
        if (place < 0 || place > 5 || tape.length() < p) {
            throw new IllegalArgumentException();
        }
        String text = tape.substring(0, p);
        tape.setLength(0);
        TreeMap<List<Integer>, Integer> sum = none();
        for (int a = 0; a < p; a++) {
            if (text.charAt(a) >= p) {
                return NONE;
            }
            TreeMap<List<Integer>, Integer> one = constant(text.charAt(a));
            for (int other = 0; other < p; other++) {
                if (other != a) {
                    one = times(times(one, line(1, 0, 0, p - other)), constant(inverse(Math.floorMod(a - other, p))));
                }
            }
            sum = plus(sum, one, 1);
        }
        return keep(place, sum);
    }

    @SuppressWarnings("unchecked")
    int undo() {
        if (acts.isEmpty()) {
            return NONE;
        }
        Object[] act = acts.removeLast();
        places.set((Integer) act[0], (TreeMap<List<Integer>, Integer>) act[1]);
        return acts.size();
    }

    private TreeMap<List<Integer>, Integer> poly(int place) {
        if (place < 0 || place > 5) {
            throw new NoSuchElementException();
        }
        return places.get(place);
    }

    int of(int place, int what) {
        TreeMap<List<Integer>, Integer> f = poly(place);
        switch (what) {
            case 0:
                return f.size();
            case 1:
                return degree(f);
            case 2:
            case 3:
            case 4:
                return degreeIn(f, what - 2);
            case 5:
                int zeros = 0;
                for (int i = 0; i < p * p * p; i++) {
                    zeros += valueOf(f, i / p / p, i / p % p, i % p) == 0 ? 1 : 0;
                }
                return zeros;
            case 6:
                return factors(f).size();
            case 7:
                return factors(f).stream().mapToInt(l -> l[4]).sum();
            case 8:
                return f.keySet().stream().mapToInt(Naive::degreeOf).distinct().count() <= 1 ? 1 : 0;
            default:
                throw new NoSuchElementException();
        }
    }

    int term(int place, int order, int i, int what) {
        TreeMap<List<Integer>, Integer> f = poly(place);
        if (order < 0 || order > 2 || i < 0 || i >= f.size() || what < 0 || what > 3) {
            throw new NoSuchElementException();
        }
        List<List<Integer>> all = new ArrayList<>(f.keySet());
        all.sort(byOrder(order));
        return what == 0 ? f.get(all.get(i)) : all.get(i).get(what - 1);
    }

    int number(int place, int x, int y, int z) {
        TreeMap<List<Integer>, Integer> f = poly(place);
        if (x < 0 || y < 0 || z < 0) {
            throw new IllegalArgumentException();
        }
        return f.getOrDefault(List.of(x, y, z), 0);
    }

    int value(int place, int x, int y, int z) {
        TreeMap<List<Integer>, Integer> f = poly(place);
        checkPoint(x, y, z);
        return valueOf(f, x, y, z);
    }

    boolean same(int i, int j, boolean everywhere) {
        return everywhere ? witness(i, j) == NONE : poly(i).equals(poly(j));
    }

    int witness(int i, int j) {
        TreeMap<List<Integer>, Integer> f = poly(i);
        TreeMap<List<Integer>, Integer> g = poly(j);
        for (int k = 0; k < p * p * p; k++) {
            if (valueOf(f, k / p / p, k / p % p, k % p) != valueOf(g, k / p / p, k / p % p, k % p)) {
                return k;
            }
        }
        return NONE;
    }

    int factor(int place, int k, int what) {
        List<int[]> found = factors(poly(place));
        if (k < 0 || k >= found.size() || what < 0 || what > 4) {
            throw new NoSuchElementException();
        }
        return found.get(k)[what];
    }

    int often(int place, int a, int b, int c, int d) {
        TreeMap<List<Integer>, Integer> f = poly(place);
        int first = a != 0 ? a : b != 0 ? b : c;
        if (Math.min(Math.min(a, b), Math.min(c, d)) < 0 || Math.max(Math.max(a, b), Math.max(c, d)) >= p || first != 1) {
            throw new IllegalArgumentException();
        }
        return f.isEmpty() ? NONE : oftenIn(f, new int[] {a, b, c, d});
    }

    int say(int place) {
        TreeMap<List<Integer>, Integer> f = poly(place);
        List<List<Integer>> all = new ArrayList<>(f.keySet());
        all.sort(byOrder(0));
        List<String> terms = new ArrayList<>();
        for (List<Integer> m : all) {
            List<String> parts = new ArrayList<>();
            if (f.get(m) != 1 || degreeOf(m) == 0) {
                parts.add(f.get(m).toString());
            }
            for (int v = 0; v < 3; v++) {
                if (m.get(v) > 0) {
                    parts.add("xyz".charAt(v) + (m.get(v) > 1 ? "^" + m.get(v) : ""));
                }
            }
            terms.add(String.join("*", parts));
        }
        said = terms.isEmpty() ? "0" : String.join("+", terms);
        return said.length();
    }

    int said(int i) {
        return i < 0 || i >= said.length() ? NONE : said.charAt(i);
    }

    String whole() {
        return said;
    }
}
