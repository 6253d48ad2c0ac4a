import java.util.Random;

/** Random runs of calls, each answered by the class and by Naive; the seeds are fixed, so every run is the same. */
public final class AgainstNaiveTest {
    private static final int[] SIZES = {2, 3, 5, 7, 11, 13};
    private static final int RUNS = 120;
    private static final int CALLS = 500;

    private final Checks checks;
    private final Random random;
    private final StraightPolys real = new StraightPolys();
    private final Naive naive = new Naive();
    private final int run;
    private int calls = 0;
    private String log = "";

    private AgainstNaiveTest(Checks checks, int run) {
        this.checks = checks;
        this.run = run;
        this.random = new Random(run);
    }

    public static void main(String[] args) {
        Checks checks = new Checks("AgainstNaiveTest");
        // By hand, other runs: the first one's number and how many.
        int first = args.length > 0 ? Integer.parseInt(args[0]) : 0;
        int runs = args.length > 1 ? Integer.parseInt(args[1]) : RUNS;
        for (int run = first; run < first + runs && checks.fine(); run++) {
            new AgainstNaiveTest(checks, run).go();
        }
        checks.finish();
    }

    private void both(String call, Checks.Call ofReal, Checks.Call ofNaive) {
        calls++;
        boolean before = checks.fine();
        log += call + "\n";
        checks.dueText("run " + run + " call " + calls + " " + call, Checks.answerOf(ofNaive), Checks.answerOf(ofReal));
        if (before && !checks.fine()) {
            System.out.println(log);
        }
    }

    private void go() {
        int p = SIZES[run % 6];
        both("field(" + p + ")", () -> real.field(p), () -> naive.field(p));
        while (calls < CALLS && checks.fine()) {
            switch (random.nextInt(8)) {
                case 0, 1 -> tellOne();
                case 2, 3 -> makeOne();
                case 4 -> lookAtProgram();
                case 5, 6 -> lookAtPlaces();
                default -> rareOnes();
            }
        }
    }

    /** From here to there, now and then outside. */
    private int near(int from, int to) {
        int[] outside = {from - 1, to + 1, from - 1, to + 1, Integer.MIN_VALUE, Integer.MAX_VALUE, -random.nextInt(1 << 20), random.nextInt(1 << 20)};
        return random.nextInt(25) == 0 ? outside[random.nextInt(outside.length)] : from + random.nextInt(to - from + 1);
    }

    private int p() {
        return naive.count(0);
    }

    /** A place for the most part that has a polynomial other than 0. */
    private int full() {
        int place = near(0, 5);
        for (int k = 0; k < 6 && random.nextInt(12) != 0; k++) {
            if (place >= 0 && place <= 5 && naive.of(place, 0) == 0) {
                place = (place + 1) % 6;
            }
        }
        return place;
    }

    private void feedText(String text) {
        for (int[] w : Desk.words(text)) {
            both("feed(" + w[0] + ", " + w[1] + ", " + w[2] + ", " + w[3] + ", " + w[4] + ")",
                    () -> real.feed(w[0], w[1], w[2], w[3], w[4]), () -> naive.feed(w[0], w[1], w[2], w[3], w[4]));
        }
    }

    private void tellOne() {
        String text = random.nextInt(4) == 0 ? tokens() : program();
        feedText(text);
        int place = near(0, 5);
        int n = random.nextInt(30) == 0 ? random.nextInt(230) - 10 : text.length();
        both("tell(" + place + ", " + n + ") of " + text, () -> real.tell(place, n), () -> naive.tell(place, n));
        both("fault()", real::fault, naive::fault);
        for (int what = -1; what < 5; what++) {
            int w = what;
            both("count(" + w + ")", () -> real.count(w), () -> naive.count(w));
        }
    }

    private String tokens() {
        String[] some = {"a", "b", "c", "w", "x", "y", "z", "=", "=", ";", "+", "-", "*", "^", "1", "12", "007", "99", "100",
            " ", "\n", "A", "\t", "\u00ff", "0", "9", "10", "3 4", "4294967297"};
        StringBuilder text = new StringBuilder(random.nextInt(2) == 0 ? program() : "");
        int changes = 1 + random.nextInt(2);
        for (int i = 0; i < changes; i++) {
            int at = random.nextInt(text.length() + 1);
            int to = random.nextInt(2) == 0 ? at : Math.min(text.length(), at + random.nextInt(3));
            text.replace(at, to, some[random.nextInt(some.length)]);
        }
        for (int i = random.nextInt(3); i > 0; i--) {
            text.append(some[random.nextInt(some.length)]);
        }
        return text.length() > 180 ? text.substring(0, 180) : text.toString();
    }

    private String program() {
        String text = switch (random.nextInt(7)) {
            case 0, 1 -> anySteps();
            case 2, 3 -> lines();
            case 4 -> random.nextBoolean() ? vanishing() : lines().replaceAll("[yz]", "x");
            case 5 -> dense();
            default -> sparse();
        };
        return text.length() > 180 ? "a=x*y;b=a-1" : text;
    }

    private String anySteps() {
        StringBuilder text = new StringBuilder();
        int steps = 1 + random.nextInt(random.nextInt(4) == 0 ? 12 : 6);
        String names = "";
        boolean big = random.nextInt(5) == 0;
        for (int s = 0; s < steps; s++) {
            char name = (char) ('a' + random.nextInt(23));
            while (names.indexOf(name) >= 0) {
                name = (char) ('a' + random.nextInt(23));
            }
            text.append(name).append(blank()).append('=').append(blank()).append(atom(names));
            int sign = random.nextInt(12);
            if (sign < 10) {
                text.append("+-*++-**^^".charAt(sign)).append(blank());
                text.append(sign < 8 ? atom(names) : String.valueOf(random.nextInt(big ? 10 : 4)));
            }
            names += name;
            text.append(s + 1 < steps || random.nextInt(4) == 0 ? ";" : "").append(blank());
        }
        return text.toString();
    }

    /** A product of lines, some more than once, some with a number more or with another polynomial. */
    private String lines() {
        StringBuilder text = new StringBuilder("a=" + random.nextInt(20) + ";");
        char next = 'b';
        char product = 'a';
        for (int lines = 1 + random.nextInt(3); lines > 0; lines--) {
            char sum = next++;
            text.append(sum).append('=').append("xyz".charAt(random.nextInt(3))).append('+').append(random.nextInt(p())).append(';');
            for (int more = random.nextInt(3); more > 0; more--) {
                text.append(next).append('=').append("xyz".charAt(random.nextInt(3))).append('*').append(random.nextInt(p())).append(';');
                text.append((char) (next + 1)).append('=').append(sum).append('+').append(next).append(';');
                sum = (char) (next + 1);
                next += 2;
            }
            if (random.nextInt(3) == 0) {
                text.append(next).append('=').append(sum).append('^').append(random.nextInt(p() == 2 ? 7 : 4)).append(';');
                sum = next++;
            }
            text.append(next).append('=').append(product).append(lines == 1 && random.nextInt(3) == 0 ? "+" : "*").append(sum).append(';');
            product = next++;
        }
        return text.toString();
    }

    /** One that is 0 at all points, or nearly so. */
    private String vanishing() {
        int p = p();
        String v = String.valueOf("xyz".charAt(random.nextInt(3)));
        String w = String.valueOf("xyz".charAt(random.nextInt(3)));
        String up = "a=" + v + "^" + Math.min(9, p) + ";b=" + v + "^" + Math.max(0, p - 9) + ";c=a*b;";
        String[] ends = {"d=c-" + v, "d=c-" + v + ";e=d*" + w, "d=c-" + v + ";e=" + w + "+1;f=d*e", "d=c*" + w + ";e=" + w + "^" + Math.min(9, p) + ";f=" + w + "^"
            + Math.max(0, p - 9) + ";g=e*f;h=g*" + v + ";i=d-h", "d=c-1;e=d*" + w, "d=c-" + w};
        return up + ends[random.nextInt(ends.length)];
    }

    private String dense() {
        String[] some = {"a=x+y;b=a+z;c=b+1;d=c^", "a=x*y;b=a+z;c=b-1;d=c^", "a=x+2;b=a*y;c=b-z;d=c^", "a=x*y;b=x+z;c=a+b;d=c^"};
        String text = some[random.nextInt(some.length)] + random.nextInt(10);
        String[] ends = {"", ";e=d*x", ";e=d*c", ";e=d*d", ";e=d-c", ";e=c^2;f=d*e"};
        return text + ends[random.nextInt(ends.length)];
    }

    /** High exponents, so that 40 is come near to and gone over. */
    private String sparse() {
        String v = String.valueOf("xyz".charAt(random.nextInt(3)));
        String w = String.valueOf("xyz".charAt(random.nextInt(3)));
        return "a=" + v + "^" + random.nextInt(10) + ";b=a^" + random.nextInt(5) + ";c=" + w + "^" + random.nextInt(10) + ";d=b+c;e=d"
                + (random.nextBoolean() ? "*b" : "+" + random.nextInt(5)) + ";f=e*" + (random.nextBoolean() ? "c" : "e");
    }

    private String blank() {
        return random.nextInt(12) == 0 ? (random.nextBoolean() ? " " : "\n") : "";
    }

    private String atom(String names) {
        int kind = random.nextInt(10);
        if (kind < 2) {
            return String.valueOf(random.nextInt(kind == 0 ? 100 : 4));
        }
        if (kind < 5 || names.isEmpty()) {
            return String.valueOf("xyz".charAt(random.nextInt(3)));
        }
        int latest = Math.max(0, names.length() - 1 - random.nextInt(2));
        return String.valueOf(names.charAt(random.nextInt(3) == 0 ? random.nextInt(names.length()) : latest));
    }

    private void makeOne() {
        int place = near(0, 5);
        int i = full();
        int how = near(0, 9);
        if (how == 7 && tooDear(i)) {
            return;
        }
        int j = switch (how) {
            case 0, 1, 2, 8 -> full();
            case 3 -> near(0, 2);
            case 4 -> random.nextInt(3) == 0 ? near(0, 9) : random.nextInt(4);
            case 5 -> random.nextInt(9) == 0 || i < 0 || i > 5 ? near(0, 120) : Math.max(0, naive.of(i, 1) - random.nextInt(3));
            case 9 -> near(0, 5);
            default -> random.nextInt();
        };
        both("make(" + place + ", " + how + ", " + i + ", " + j + ")", () -> real.make(place, how, i, j), () -> naive.make(place, how, i, j));
        int v = near(0, 2);
        int with = full();
        if (random.nextInt(3) == 0) {
            both("put(" + place + ", " + i + ", " + v + ", " + with + ")", () -> real.put(place, i, v, with), () -> naive.put(place, i, v, with));
        }
        checkWhole(place);
    }

    private void checkWhole(int place) {
        both("say(" + place + ")", () -> real.say(place), () -> naive.say(place));
        StringBuilder got = new StringBuilder();
        for (int i = 0; real.said(i) >= 0 && i < 9999; i++) {
            got.append((char) real.said(i));
        }
        checks.dueText("run " + run + " what is said", naive.whole(), got.toString());
    }

    private void lookAtProgram() {
        for (int i = 0; i < 6; i++) {
            int step = near(0, Math.max(0, naive.count(1) - 1));
            int what = near(0, 6);
            both("step(" + step + ", " + what + ")", () -> real.step(step, what), () -> naive.step(step, what));
            int x = near(0, p() - 1);
            int y = near(0, p() - 1);
            int z = near(0, p() - 1);
            boolean back = random.nextBoolean();
            both("at(" + step + ", " + back + ", " + x + ", " + y + ", " + z + ")",
                    () -> real.at(step, back, x, y, z), () -> naive.at(step, back, x, y, z));
        }
    }

    /** Whether Naive would take too long to find all factors. */
    private boolean tooDear(int place) {
        if (place < 0 || place > 5) {
            return false;
        }
        long lines = (long) p() * p() * p();
        return lines * naive.of(place, 0) * (1 + naive.of(place, 1)) > 100000;
    }

    private void lookAtPlaces() {
        int place = full();
        int other = full();
        int x = near(0, p() - 1);
        int y = near(0, p() - 1);
        int z = near(0, p() - 1);
        int what = near(0, 8);
        if (what != 6 && what != 7 || !tooDear(place)) {
            both("of(" + place + ", " + what + ")", () -> real.of(place, what), () -> naive.of(place, what));
        }
        both("value(" + place + ", " + x + ", " + y + ", " + z + ")", () -> real.value(place, x, y, z), () -> naive.value(place, x, y, z));
        int i = near(0, place < 0 || place > 5 ? 1 : naive.of(place, 0));
        int order = near(0, 2);
        int part = near(0, 3);
        both("term(" + place + ", " + order + ", " + i + ", " + part + ")", () -> real.term(place, order, i, part), () -> naive.term(place, order, i, part));
        both("number(" + place + ", " + x + ", " + y + ", " + z + ")", () -> real.number(place, x, y, z), () -> naive.number(place, x, y, z));
        if (place >= 0 && place <= 5 && naive.of(place, 0) > 0) {
            int t = random.nextInt(naive.of(place, 0));
            int[] m = {naive.term(place, 0, t, 1), naive.term(place, 0, t, 2), naive.term(place, 0, t, 3)};
            both("number of a term", () -> real.number(place, m[0], m[1], m[2]), () -> naive.number(place, m[0], m[1], m[2]));
        }
        boolean everywhere = random.nextBoolean();
        both("same(" + place + ", " + other + ", " + everywhere + ")",
                () -> real.same(place, other, everywhere) ? 1 : 0, () -> naive.same(place, other, everywhere) ? 1 : 0);
        both("witness(" + place + ", " + other + ")", () -> real.witness(place, other), () -> naive.witness(place, other));
        lookAtFactors(place);
    }

    private void lookAtFactors(int place) {
        boolean known = place >= 0 && place <= 5 && !tooDear(place);
        int size = known ? naive.of(place, 6) : 0;
        int k = near(0, size);
        int what = near(0, 4);
        if (known) {
            both("factor(" + place + ", " + k + ", " + what + ")", () -> real.factor(place, k, what), () -> naive.factor(place, k, what));
        }
        if (size > 0 && random.nextBoolean()) {
            int one = random.nextInt(size);
            int[] l = {naive.factor(place, one, 0), naive.factor(place, one, 1), naive.factor(place, one, 2), naive.factor(place, one, 3)};
            both("often() of factor " + one, () -> real.often(place, l[0], l[1], l[2], l[3]), () -> naive.often(place, l[0], l[1], l[2], l[3]));
        }
        int kind = random.nextInt(4);
        int a = kind < 2 ? 1 : 0;
        int b = kind == 0 ? near(0, p() - 1) : kind == 2 ? 1 : 0;
        int c = kind == 3 ? 1 : near(0, p() - 1);
        int d = near(0, p() - 1);
        both("often(" + place + ", " + a + ", " + b + ", " + c + ", " + d + ")", () -> real.often(place, a, b, c, d), () -> naive.often(place, a, b, c, d));
    }

    private void rareOnes() {
        int kind = random.nextInt(12);
        int place = near(0, 5);
        if (kind < 6) {
            both("undo()", real::undo, naive::undo);
            checkWhole(place);
        } else if (kind < 8) {
            int said = random.nextInt(20) - 2;
            both("said(" + said + ")", () -> real.said(said), () -> naive.said(said));
        } else if (kind < 11) {
            StringBuilder text = new StringBuilder();
            for (int i = 0; i < 20; i++) {
                text.append((char) (random.nextInt(60) == 0 ? random.nextInt(256) : random.nextInt(p())));
            }
            if (random.nextInt(6) != 0) {
                feedText(text.toString());
            }
            both("fit(" + place + ")", () -> real.fit(place), () -> naive.fit(place));
            checkWhole(place);
        } else if (random.nextInt(4) == 0) {
            int newP = random.nextInt(2) == 0 ? random.nextInt(16) - 1 : SIZES[random.nextInt(6)];
            both("field(" + newP + ")", () -> real.field(newP), () -> naive.field(newP));
        }
    }
}
