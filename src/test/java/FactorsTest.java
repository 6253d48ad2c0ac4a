import java.util.Map;
import java.util.Random;
import java.util.TreeMap;

/** Products of random LINES and other polynomials (fixed seeds), larger ones than Naive can do: REST and FACTORS give them back, no LINE is missed. */
public final class FactorsTest extends Desk {
    private static final int PRODUCTS = 60;

    private FactorsTest() {
        super("FactorsTest");
    }

    public static void main(String[] args) {
        FactorsTest test = new FactorsTest();
        // By hand, other products: the first one's number and how many.
        int first = args.length > 0 ? Integer.parseInt(args[0]) : 0;
        int products = args.length > 1 ? Integer.parseInt(args[1]) : PRODUCTS;
        for (int k = first; k < first + products; k++) {
            test.product(k, new Random(k));
        }
        test.checks.finish();
    }

    private void product(int seed, Random random) {
        int p = SIZES[seed % 6];
        sentence("product " + seed + " over " + p);
        fresh(p);
        told(0, "a=" + (1 + random.nextInt(p - 1)));
        for (int k = 1 + random.nextInt(7); k > 0; k--) {
            boolean isLine = random.nextInt(4) > 0;
            told(1, isLine ? line(random, p) : "a=x*y;b=z^2;c=a+b;d=x+" + random.nextInt(p) + ";e=c+d");
            s.make(1, 4, 1, 1 + random.nextInt(3));
            s.make(0, 2, 0, 1);
        }
        if (random.nextInt(3) == 0) {
            told(1, "a=x^" + random.nextInt(10) + ";b=y^" + random.nextInt(10) + ";c=z^" + random.nextInt(10) + ";d=a*b;e=d*c");
            s.make(0, 2, 0, 1);
        }
        Map<Integer, Integer> whole = polyAt(0);
        is("REST", s.make(2, 7, 0, 0), s.of(2, 0));
        is("no FACTORS of REST", 0, s.of(2, 6));
        Map<Integer, Integer> back = polyAt(2);
        int[][] found = new int[s.of(0, 6)][5];
        for (int k = 0; k < found.length; k++) {
            for (int what = 0; what < 5; what++) {
                found[k][what] = s.factor(0, k, what);
            }
            for (int n = 0; n < found[k][4]; n++) {
                back = times(back, found[k], p);
            }
        }
        isText("all together", whole.toString(), back.toString());
        allLines(p, found);
    }

    private static String line(Random random, int p) {
        String[] heads = {"a=x", "a=x", "a=y", "a=z"};
        int head = random.nextInt(heads.length);
        int ofY = head < 2 && random.nextBoolean() ? random.nextInt(p) : 0;
        int ofZ = head < 3 && random.nextBoolean() ? random.nextInt(p) : 0;
        return heads[head] + ";b=y*" + ofY + ";c=z*" + ofZ + ";d=a+b;e=d+c;f=e+" + random.nextInt(p);
    }

    private Map<Integer, Integer> polyAt(int place) {
        Map<Integer, Integer> terms = new TreeMap<>();
        for (int i = 0; i < s.of(place, 0); i++) {
            terms.put((s.term(place, 1, i, 1) << 16) + (s.term(place, 1, i, 2) << 8) + s.term(place, 1, i, 3), s.term(place, 1, i, 0));
        }
        return terms;
    }

    private static Map<Integer, Integer> times(Map<Integer, Integer> f, int[] line, int p) {
        Map<Integer, Integer> product = new TreeMap<>();
        int[] steps = {1 << 16, 1 << 8, 1, 0};
        for (Map.Entry<Integer, Integer> term : f.entrySet()) {
            for (int k = 0; k < 4; k++) {
                product.merge(term.getKey() + steps[k], term.getValue() * line[k] % p, (a, b) -> (a + b) % p);
            }
        }
        product.values().removeIf(n -> n == 0);
        return product;
    }

    /** Asks each LINE by itself: those found go in as often as was said, all others not at all. */
    private void allLines(int p, int[][] found) {
        int next = 0;
        int all = p * p * p + p * p + p;
        for (int n = 0; n < all; n++) {
            int inX = n - p * p * p;
            int inY = inX - p * p;
            int[] l = inX < 0 ? new int[] {1, n / p / p, n / p % p, n % p} : inY < 0 ? new int[] {0, 1, inX / p, inX % p} : new int[] {0, 0, 1, inY};
            boolean isNext = next < found.length && found[next][0] == l[0] && found[next][1] == l[1] && found[next][2] == l[2] && found[next][3] == l[3];
            is("often " + l[0] + " " + l[1] + " " + l[2] + " " + l[3], isNext ? found[next][4] : 0, s.often(0, l[0], l[1], l[2], l[3]));
            next += isNext ? 1 : 0;
        }
        is("none more", found.length, next);
    }
}
