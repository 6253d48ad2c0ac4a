/** Each sentence of promises 13 to 22, and of the terms behind them, that names a boundary case: a test of its own. */
public final class EdgesOfAnswersTest extends Desk {
    private EdgesOfAnswersTest() {
        super("EdgesOfAnswersTest");
    }

    public static void main(String[] args) {
        EdgesOfAnswersTest test = new EdgesOfAnswersTest();
        test.promise13Degrees();
        test.promise13Zeros();
        test.promise13Factors();
        test.promise13OneDegree();
        test.promise13Missing();
        test.promise14();
        test.promise14Missing();
        test.promise15();
        test.promise16();
        test.promise17();
        test.promise18();
        test.promise19();
        test.promise19Numbers();
        test.promise19Missing();
        test.promise20();
        test.promise20Illegal();
        test.promise21();
        test.promise21Longest();
        test.promise22();
        test.checks.finish();
    }

    private void isOf(int place, int what, int want) {
        is("of(" + place + ", " + what + ")", want, s.of(place, what));
    }

    private void promise13Degrees() {
        sentence("13 TERMS: 0, 300");
        isOf(0, 0, 0);
        fresh(13);
        told(0, TERMS_300);
        isOf(0, 0, 300);
        sentence("13 DEGREE (NONE)");
        isOf(0, 1, -1);
        told(1, "a=x-x");
        isOf(1, 1, -1);
        told(1, "a=3");
        isOf(1, 1, 0);
        told(1, ALL_40);
        isOf(1, 1, 120);
        told(1, "a=x*y;b=z^3;c=a+b;d=x^2;e=c+d");
        isOf(1, 1, 3);
        sentence("13 DEGREE in x, y, z (NONE)");
        for (int what = 2; what < 5; what++) {
            isOf(0, what, -1);
        }
        told(1, "a=3");
        for (int what = 2; what < 5; what++) {
            isOf(1, what, 0);
        }
        told(1, ALL_40);
        for (int what = 2; what < 5; what++) {
            isOf(1, what, 40);
        }
        told(1, "a=x*y;b=y^3;c=a+b;d=z^9;e=d+c;f=x^7;g=f*z;h=g+e");
        isOf(1, 2, 7);
        isOf(1, 3, 3);
        isOf(1, 4, 9);
        told(1, "a=y+1");
        isOf(1, 2, 0);
        isOf(1, 3, 1);
        isOf(1, 4, 0);
    }

    private void promise13Zeros() {
        sentence("13 ZEROS: of 0, of a number, of each VARIABLE, of what is 0 at no point");
        for (int p : SIZES) {
            fresh(p);
            isOf(0, 5, p * p * p);
            told(0, "a=1");
            isOf(0, 5, 0);
            told(0, "a=x");
            isOf(0, 5, p * p);
            told(0, "a=y");
            isOf(0, 5, p * p);
            told(0, "a=z+1");
            isOf(0, 5, p * p);
            told(0, "a=x*y;b=a*z");
            isOf(0, 5, p * p * p - (p - 1) * (p - 1) * (p - 1));
            // n^P - n is 0 everywhere.
            String vanishing = toTheP('x', p) + ";d=c-x";
            told(0, vanishing);
            isOf(0, 5, p * p * p);
            told(0, vanishing + ";e=d*y;f=e+1");
            isOf(0, 5, 0);
        }
    }

    /** The product of all LINES over 2 or 3: the determinant of 1, x, y, z, each to the 1, P, P^2, P^3. */
    private void makeAllLines(int p) {
        fresh(p);
        int[] powers = {1, p, p * p, p * p * p};
        for (int n = 0; n < 64; n++) {
            int i = n / 16;
            int j = n / 4 % 4;
            int k = n % 4;
            if (i != j && i != k && j != k) {
                int swaps = (i > j ? 1 : 0) + (i > k ? 1 : 0) + (j > k ? 1 : 0) + i + j + k;
                told(1, raised("a=x", powers[i], "b=a") + raised("c=y", powers[j], "d=c") + raised("e=z", powers[k], "f=e") + "g=b*d;h=g*f");
                s.make(0, swaps % 2, 0, 1);
            }
        }
    }

    private static String raised(String step, int n, String behind) {
        return step + "^" + Math.min(n, 9) + ";" + behind + "^" + Math.max(n / 9, 1) + ";";
    }

    private void promise13Factors() {
        sentence("13 how many unlike FACTORS (0 of 0)");
        isOf(0, 6, 0);
        told(0, "a=3");
        isOf(0, 6, 0);
        told(0, "a=x*x;b=a+2");
        isOf(0, 6, 0);
        told(0, "a=3*x");
        isOf(0, 6, 1);
        told(0, "a=x^9");
        isOf(0, 6, 1);
        makeAllLines(2);
        isOf(0, 0, 24);
        isOf(0, 6, 14);
        makeAllLines(3);
        isOf(0, 0, 24);
        isOf(0, 6, 39);
        sentence("13 all of them, each as OFTEN as it goes in (0 of 0)");
        isOf(0, 7, 0);
        told(0, "a=3");
        isOf(0, 7, 0);
        told(0, "a=x*x;b=a+2");
        isOf(0, 7, 0);
        told(0, "a=3*x");
        isOf(0, 7, 1);
        told(0, "a=x^9");
        isOf(0, 7, 9);
        told(0, ALL_40);
        isOf(0, 6, 3);
        isOf(0, 7, 120);
        makeAllLines(2);
        isOf(0, 7, 14);
        s.make(0, 4, 0, 2);
        isOf(0, 6, 14);
        isOf(0, 7, 28);
    }

    private void promise13OneDegree() {
        sentence("13 whether all TERMS have one DEGREE (1, 0; of 0: 1)");
        isOf(0, 8, 1);
        told(0, "a=3");
        isOf(0, 8, 1);
        told(0, "a=x");
        isOf(0, 8, 1);
        told(0, "a=x+1");
        isOf(0, 8, 0);
        told(0, "a=x*y;b=z^2;c=a+b");
        isOf(0, 8, 1);
        told(0, "a=x*y;b=z^2;c=a+b;d=c+z");
        isOf(0, 8, 0);
        told(0, "a=x^2;b=y*z;c=a+b;d=y^3;e=c+d");
        isOf(0, 8, 0);
        told(0, ALL_40);
        isOf(0, 8, 1);
    }

    private void promise13Missing() {
        sentence("13 NoSuchElementException: no such PLACE");
        told(0, "a=x");
        for (int place : NO_PLACES) {
            for (int what = -1; what < 10; what++) {
                int w = what;
                missing("of(" + place + ", " + what + ")", () -> s.of(place, w));
            }
        }
        sentence("13 NoSuchElementException: another what");
        told(0, "a=x");
        for (int what : new int[] {-1, 9, 10, LEAST, MOST}) {
            missing("of(0, " + what + ")", () -> s.of(0, what));
            missing("of(5, " + what + ")", () -> s.of(5, what));
        }
    }

    private void isTerms(int order, String... want) {
        for (int i = 0; i < want.length; i++) {
            String got = s.term(0, order, i, 0) + ":" + s.term(0, order, i, 1) + "," + s.term(0, order, i, 2) + "," + s.term(0, order, i, 3);
            isText("order " + order + " term " + i, want[i], got);
        }
    }

    private void promise14() {
        sentence("14 ORDER 0 by DEGREE, of like ones by the EXPONENT of x, then of y");
        told(0, "a=z^2;b=y*z;c=y^2;d=x*z;e=x*y;f=x^2;g=a+b;h=c+d;i=e+f;j=g+h;k=j+i;l=z^3;m=k+l;n=x+y;o=z+2;p=n+o;q=m+p");
        isTerms(0, "1:0,0,3", "1:2,0,0", "1:1,1,0", "1:1,0,1", "1:0,2,0", "1:0,1,1", "1:0,0,2", "1:1,0,0", "1:0,1,0", "1:0,0,1", "2:0,0,0");
        sentence("14 ORDER 1 by EXPONENTS of x, then y, then z");
        told(0, "a=z^9;b=y*a;c=x*a;d=x*b;e=y^2;f=x^2;g=a+b;h=c+d;i=e+f;j=g+h;k=j+i;l=k+3;m=l+z");
        isTerms(1, "1:2,0,0", "1:1,1,9", "1:1,0,9", "1:0,2,0", "1:0,1,9", "1:0,0,9", "1:0,0,1", "3:0,0,0");
        sentence("14 ORDER 2 of z, then y, then x");
        told(0, "a=x^9;b=y*a;c=z*a;d=z*b;e=y^2;f=z^2;g=a+b;h=c+d;i=e+f;j=g+h;k=j+i;l=k+3;m=l+x");
        isTerms(2, "1:0,0,2", "1:9,1,1", "1:9,0,1", "1:0,2,0", "1:9,1,0", "1:9,0,0", "1:1,0,0", "3:0,0,0");
        sentence("14 TERM i of 300, of EXPONENTS 40, by each ORDER");
        fresh(13);
        told(0, TERMS_300);
        for (int order = 0; order < 3; order++) {
            is("first", 9, s.term(0, order, 0, 1));
            is("last", 1, s.term(0, order, 299, 0));
            is("last", 0, s.term(0, order, 299, 1) + s.term(0, order, 299, 2) + s.term(0, order, 299, 3));
            for (int i = 1; i < 300; i++) {
                isAnswer("order " + order + " term " + i, true, rank(order, i - 1) > rank(order, i));
            }
        }
        told(0, ALL_40 + ";i=b+d;j=f+h;k=i+j");
        isTerms(0, "1:40,40,40", "1:40,0,0", "1:0,40,0", "1:0,0,40");
        isTerms(1, "1:40,40,40", "1:40,0,0", "1:0,40,0", "1:0,0,40");
        isTerms(2, "1:40,40,40", "1:0,0,40", "1:0,40,0", "1:40,0,0");
    }

    private int rank(int order, int i) {
        int x = s.term(0, order, i, 1);
        int y = s.term(0, order, i, 2);
        int z = s.term(0, order, i, 3);
        return order == 0 ? ((x + y + z) * 41 + x) * 41 + y : order == 1 ? (x * 41 + y) * 41 + z : (z * 41 + y) * 41 + x;
    }

    private void promise14Missing() {
        sentence("14 NoSuchElementException: no such PLACE");
        told(0, "a=x+1");
        for (int place : NO_PLACES) {
            missing("term(" + place + ", 0, 0, 0)", () -> s.term(place, 0, 0, 0));
        }
        sentence("14 NoSuchElementException: no such ORDER");
        told(0, "a=x+1");
        for (int order : new int[] {-1, 3, 4, LEAST, MOST}) {
            missing("term(0, " + order + ", 0, 0)", () -> s.term(0, order, 0, 0));
        }
        sentence("14 NoSuchElementException: no such TERM");
        told(0, "a=x+1");
        for (int order = 0; order < 3; order++) {
            int o = order;
            for (int i : new int[] {-1, 2, 3, 299, 300, LEAST, MOST}) {
                missing("term(0, " + o + ", " + i + ", 0)", () -> s.term(0, o, i, 0));
            }
            missing("of 0", () -> s.term(1, o, 0, 0));
        }
        fresh(13);
        told(0, TERMS_300);
        for (int order = 0; order < 3; order++) {
            int o = order;
            missing("term 300", () -> s.term(0, o, 300, 0));
        }
        sentence("14 NoSuchElementException: no such what");
        told(0, "a=x+1");
        for (int what : new int[] {-1, 4, 5, LEAST, MOST}) {
            missing("term(0, 0, 0, " + what + ")", () -> s.term(0, 0, 0, what));
        }
    }

    private void promise15() {
        sentence("15 The number that stands with a MONOMIAL (0: none)");
        told(0, ALL_40 + ";i=3*h;j=i+b;k=x*2;l=j+k;m=l+4");
        is("x^40 y^40 z^40", 3, s.number(0, 40, 40, 40));
        is("x^40", 1, s.number(0, 40, 0, 0));
        is("x", 2, s.number(0, 1, 0, 0));
        is("1", 4, s.number(0, 0, 0, 0));
        is("none", 0, s.number(0, 0, 40, 0));
        is("none", 0, s.number(0, 39, 40, 40));
        is("none of 0", 0, s.number(1, 0, 0, 0));
        sentence("15 an EXPONENT above 40: none");
        told(0, ALL_40 + ";i=x+y;j=z+1;k=i+j;l=k+h");
        for (int e : new int[] {41, 42, 63, 64, 65, 127, 128, 255, 256, 1 << 12, 1 << 18, 1 << 20, (1 << 20) + 40, 1 << 30, MOST}) {
            is("x " + e, 0, s.number(0, e, 0, 0));
            is("y " + e, 0, s.number(0, 0, e, 0));
            is("z " + e, 0, s.number(0, 0, 0, e));
            is("all " + e, 0, s.number(0, e, e, e));
            is("x and 40 " + e, 0, s.number(0, e, 40, 40));
        }
        sentence("15 NoSuchElementException: no such PLACE");
        for (int place : NO_PLACES) {
            missing("number(" + place + ")", () -> s.number(place, 0, 0, 0));
        }
        sentence("15 IllegalArgumentException: an EXPONENT below 0");
        told(0, "a=x+1");
        for (int no : new int[] {-1, -2, -64, LEAST}) {
            illegal("x " + no, () -> s.number(0, no, 0, 0));
            illegal("y " + no, () -> s.number(0, 0, no, 0));
            illegal("z " + no, () -> s.number(0, 0, 0, no));
            illegal("with one above 40", () -> s.number(0, 41, 41, no));
            illegal("with one above 40", () -> s.number(0, no, MOST, 41));
            illegal("of 0", () -> s.number(1, 0, no, 0));
        }
        sentence("15 (behind that)");
        missing("both", () -> s.number(6, -1, 0, 0));
        missing("both", () -> s.number(-1, 0, 0, LEAST));
    }

    private void promise16() {
        sentence("16 VALUE of a PLACE's at a point");
        for (int p : SIZES) {
            fresh(p);
            told(0, "a=x*y;b=a+z");
            told(1, ALL_40);
            is("least", 0, s.value(0, 0, 0, 0));
            is("greatest", 0, s.value(0, p - 1, p - 1, p - 1));
            is("x", p - 1, s.value(0, p - 1, 1, 0));
            is("z", p - 1, s.value(0, 0, 1, p - 1));
            is("EXPONENT 40 of -1", 1, s.value(1, p - 1, p - 1, p - 1));
            is("of 0", 0, s.value(5, p - 1, 0, 1));
        }
        sentence("16 NoSuchElementException: no such PLACE");
        for (int place : NO_PLACES) {
            missing("value(" + place + ")", () -> s.value(place, 0, 0, 0));
        }
        sentence("16 IllegalArgumentException: no such point");
        for (int p : SIZES) {
            fresh(p);
            told(0, "a=x+1");
            for (int no : new int[] {-1, p, p + 1, LEAST, MOST}) {
                illegal("x " + no, () -> s.value(0, no, 0, 0));
                illegal("y " + no, () -> s.value(0, 0, no, 0));
                illegal("z " + no, () -> s.value(0, 0, 0, no));
                illegal("of 0", () -> s.value(5, 0, 0, no));
            }
        }
        sentence("16 (behind that)");
        missing("both", () -> s.value(6, 5, 0, 0));
        missing("both", () -> s.value(-1, 0, 0, -1));
    }

    private void promise17() {
        sentence("17 the same POLYNOMIAL (everywhere false): x to the P isn't x");
        for (int p : SIZES) {
            fresh(p);
            told(0, toTheP('x', p));
            told(1, "a=x");
            isAnswer("same", false, s.same(0, 1, false));
            isAnswer("AGREE", true, s.same(0, 1, true));
            told(2, toTheP('x', p) + ";d=c-x");
            isAnswer("same as 0", false, s.same(2, 5, false));
            isAnswer("AGREE with 0", true, s.same(2, 5, true));
        }
        sentence("17 two of as many TERMS, of unlike numbers or MONOMIALS");
        told(0, "a=x+2");
        String[] unlike = {"a=x+3", "a=2*x;b=a+2", "a=y+2", "a=x+y", "a=x+2;b=a+y", "a=x"};
        for (String text : unlike) {
            told(1, text);
            isAnswer(text, false, s.same(0, 1, false));
            isAnswer(text, false, s.same(1, 0, false));
            isAnswer(text, false, s.same(0, 1, true));
        }
        told(1, "a=1+x;b=a+6");
        isAnswer("same", true, s.same(0, 1, false));
        isAnswer("AGREE", true, s.same(0, 1, true));
        sentence("17 a PLACE with itself, 0 with 0");
        for (int place = 0; place < 6; place++) {
            isAnswer("same", true, s.same(place, place, false));
            isAnswer("AGREE", true, s.same(place, place, true));
            isAnswer("0 and 0", true, s.same(place, 5 - place, false));
        }
        sentence("17 NoSuchElementException: no such PLACES");
        for (int no : NO_PLACES) {
            missing("first", () -> s.same(no, 0, false) ? 1 : 0);
            missing("first", () -> s.same(no, 0, true) ? 1 : 0);
            missing("second", () -> s.same(0, no, false) ? 1 : 0);
            missing("second", () -> s.same(0, no, true) ? 1 : 0);
            missing("both", () -> s.same(no, no, false) ? 1 : 0);
        }
    }

    /** 1 - (v - n)^(P - 1), which is 1 where v is n and 0 elsewhere, as a place's. */
    private void makeOnlyAt(int place, char v, int n, int p) {
        int up = p - 1;
        told(place, "a=" + v + "-" + n + ";b=a^" + up / 2 + ";c=a^" + (up - up / 2) + ";d=b*c;e=1-d");
    }

    private void promise18() {
        sentence("18 WITNESS: the first point (by x, then y, then z)");
        for (int p : new int[] {2, 3, 5, 7}) {
            int[][] points = {{0, 0, 0}, {0, 0, p - 1}, {0, p - 1, 0}, {p - 1, 0, 0}, {1, 1, 1}, {p - 1, p - 1, p - 1}};
            for (int[] at : points) {
                fresh(p);
                for (int v = 0; v < 3; v++) {
                    makeOnlyAt(v, (char) ('x' + v), at[v], p);
                }
                s.make(3, 2, 0, 1);
                s.make(3, 2, 3, 2);
                int due = at[0] * p * p + at[1] * p + at[2];
                is("over " + p, due, s.witness(3, 5));
                is("the other way", due, s.witness(5, 3));
                is("zeros", p * p * p - 1, s.of(3, 5));
                told(4, "a=x*y;b=a-z");
                s.make(3, 0, 3, 4);
                is("with another one", due, s.witness(3, 4));
            }
        }
        for (int p : new int[] {11, 13}) {
            fresh(p);
            makeOnlyAt(0, 'x', p - 1, p);
            makeOnlyAt(1, 'y', p - 1, p);
            is("x", (p - 1) * p * p, s.witness(0, 5));
            is("y", (p - 1) * p, s.witness(1, 5));
            s.make(2, 2, 0, 1);
            is("x and y", (p - 1) * p * p + (p - 1) * p, s.witness(2, 5));
            told(3, "a=z");
            s.make(2, 2, 2, 3);
            is("all", (p - 1) * p * p + (p - 1) * p + 1, s.witness(2, 5));
        }
        sentence("18 the first point of many");
        told(0, "a=x*y;b=z*x;c=a+b");
        told(1, "a=x");
        // x y + x z - x isn't 0 first where x is 1 and y, z are 0.
        is("witness", 25, s.witness(0, 1));
        told(1, "a=1");
        is("witness", 0, s.witness(0, 1));
        sentence("18 NONE: they AGREE");
        is("0 and 0", -1, s.witness(0, 1));
        told(0, "a=x^5;b=a*y");
        told(1, "a=x*y");
        is("agree", -1, s.witness(0, 1));
        is("itself", -1, s.witness(0, 0));
        sentence("18 NoSuchElementException: no such PLACES");
        for (int no : NO_PLACES) {
            missing("first", () -> s.witness(no, 0));
            missing("second", () -> s.witness(0, no));
            missing("both", () -> s.witness(no, no));
        }
    }

    private void isFactor(int k, int... want) {
        for (int what = 0; what < want.length; what++) {
            is("factor " + k + " what " + what, want[what], s.factor(0, k, what));
        }
    }

    private void promise19() {
        sentence("19 a LINE itself, and times a number");
        for (int p : SIZES) {
            fresh(p);
            told(0, "a=x+y;b=a*" + (p - 1));
            isFactor(0, 1, 1, 0, 0, 1);
            told(0, "a=y-1;b=a*" + (p - 1));
            isFactor(0, 0, 1, 0, p - 1, 1);
            told(0, "a=z+1;b=a*" + (p - 1));
            isFactor(0, 0, 0, 1, 1, 1);
        }
        sentence("19 how OFTEN (4): 1, P, 40");
        told(0, "a=x+1;b=a^5");
        isFactor(0, 1, 0, 0, 1, 5);
        told(0, "a=x+1;b=a^8;c=b^5");
        isFactor(0, 1, 0, 0, 1, 40);
        told(0, ALL_40);
        isFactor(0, 1, 0, 0, 0, 40);
        isFactor(1, 0, 1, 0, 0, 40);
        isFactor(2, 0, 0, 1, 0, 40);
        told(0, "a=x+y;b=a+z;c=b^5;d=c^8");
        isFactor(0, 1, 1, 1, 0, 40);
        sentence("19 what is 0 at all points of a LINE, but isn't it times a POLYNOMIAL");
        told(0, "a=x^5;b=a-x;c=y^5;d=c-y;e=b*z;f=d+e");
        is("zeros", 125, s.of(0, 5));
        missing("no FACTOR", () -> s.factor(0, 0, 0));
        // x times n^5 - n: x alone, not the five of them where y is in the other one.
        told(0, "a=y^5;b=a-y;c=x^5;d=c-x;e=d*z;f=b+e;g=f*x");
        is("one", 1, s.of(0, 6));
        isFactor(0, 1, 0, 0, 0, 1);
    }

    private void promise19Numbers() {
        for (int p : new int[] {2, 3}) {
            sentence("19 by numbers of LINES: x first, then y, then z, of these by b, then c, then d rising, all over " + p);
            makeAllLines(p);
            int k = 0;
            for (int b = 0; b < p; b++) {
                for (int c = 0; c < p; c++) {
                    for (int d = 0; d < p; d++) {
                        isFactor(k, 1, b, c, d, 1);
                        k++;
                    }
                }
            }
            for (int c = 0; c < p; c++) {
                for (int d = 0; d < p; d++) {
                    isFactor(k, 0, 1, c, d, 1);
                    k++;
                }
            }
            for (int d = 0; d < p; d++) {
                isFactor(k, 0, 0, 1, d, 1);
                k++;
            }
            int behind = k;
            is("factors", k, s.of(0, 6));
            missing("no more", () -> s.factor(0, behind, 0));
        }
        for (int p : SIZES) {
            sentence("19 by numbers of LINES: d rising, all P of them over " + p);
            for (int v = 0; v < 3; v++) {
                fresh(p);
                char name = (char) ('x' + v);
                told(0, toTheP(name, p) + ";d=c-" + name);
                is("factors", p, s.of(0, 6));
                for (int d = 0; d < p; d++) {
                    isFactor(d, v == 0 ? 1 : 0, v == 1 ? 1 : 0, v == 2 ? 1 : 0, d, 1);
                }
            }
        }
    }

    private void promise19Missing() {
        sentence("19 NoSuchElementException: no such PLACE");
        told(0, "a=x");
        for (int place : NO_PLACES) {
            missing("factor(" + place + ", 0, 0)", () -> s.factor(place, 0, 0));
        }
        sentence("19 NoSuchElementException: no such FACTOR");
        told(0, "a=x*y");
        for (int k : new int[] {-1, 2, 3, 119, 120, 121, LEAST, MOST}) {
            missing("factor(0, " + k + ", 0)", () -> s.factor(0, k, 0));
        }
        missing("of 0", () -> s.factor(1, 0, 0));
        told(0, "a=3");
        missing("of a number", () -> s.factor(0, 0, 0));
        told(0, "a=x*x;b=a+2");
        missing("of one without", () -> s.factor(0, 0, 4));
        told(1, "a=x");
        is("another one's", 1, s.factor(1, 0, 0));
        missing("of one without, again", () -> s.factor(0, 0, 4));
        sentence("19 NoSuchElementException: no such what");
        told(0, "a=x*y");
        for (int what : new int[] {-1, 5, 6, LEAST, MOST}) {
            missing("factor(0, 0, " + what + ")", () -> s.factor(0, 0, what));
            missing("factor(0, 1, " + what + ")", () -> s.factor(0, 1, what));
        }
    }

    private void promise20() {
        sentence("20 (0: it is no FACTOR)");
        told(0, "a=x+1;b=a*y");
        is("x", 0, s.often(0, 1, 0, 0, 0));
        is("z", 0, s.often(0, 0, 0, 1, 0));
        is("x + y + 1", 0, s.often(0, 1, 1, 0, 1));
        is("x + 1", 1, s.often(0, 1, 0, 0, 1));
        is("y", 1, s.often(0, 0, 1, 0, 0));
        told(0, "a=3");
        is("of a number", 0, s.often(0, 1, 0, 0, 0));
        is("of a number", 0, s.often(0, 0, 1, 4, 4));
        is("of a number", 0, s.often(0, 0, 0, 1, 4));
        sentence("20 OFTEN: the greatest n");
        for (int p : SIZES) {
            fresh(p);
            for (int n = 0; n < 10; n++) {
                told(0, "a=x-1;b=a^" + n + ";c=y*y;d=c+z;e=b*d");
                is("n " + n + " over " + p, n, s.often(0, 1, 0, 0, p - 1));
            }
            told(0, "a=x+1;b=a^8;c=b^5");
            is("40", 40, s.often(0, 1, 0, 0, 1));
            told(0, "a=z+1;b=a^8;c=b^5");
            is("40", 40, s.often(0, 0, 0, 1, 1));
        }
        sentence("20 NONE: that is 0");
        is("of 0", -1, s.often(0, 1, 0, 0, 0));
        is("of 0", -1, s.often(5, 0, 0, 1, 4));
        told(0, "a=x-x");
        is("of 0", -1, s.often(0, 0, 1, 4, 0));
    }

    private void promise20Illegal() {
        sentence("20 NoSuchElementException: no such PLACE");
        for (int place : NO_PLACES) {
            missing("often(" + place + ")", () -> s.often(place, 1, 0, 0, 0));
        }
        sentence("20 IllegalArgumentException: no LINE");
        for (int p : SIZES) {
            fresh(p);
            told(0, "a=x+1");
            for (int n = 0; n < p * p * p * p && n < 4000; n++) {
                int a = n / p / p / p;
                int b = n / p / p % p;
                int c = n / p % p;
                int d = n % p;
                boolean isLine = a == 1 || a == 0 && b == 1 || a == 0 && b == 0 && c == 1;
                String want = !isLine ? "IllegalArgument" : a == 1 && b == 0 && c == 0 && d == 1 ? "1" : "0";
                isText("over " + p + ": " + a + " " + b + " " + c + " " + d, want, Checks.answerOf(() -> s.often(0, a, b, c, d)));
            }
            illegal("P - 1 times x, none of it over 2", () -> s.often(0, p > 2 ? p - 1 : 0, 0, 0, 0));
        }
        sentence("20 IllegalArgumentException: a number not 0 to P - 1");
        for (int p : SIZES) {
            fresh(p);
            told(0, "a=x+1");
            for (int no : new int[] {-1, p, p + 1, 1 - p, LEAST, MOST}) {
                illegal("a " + no, () -> s.often(0, no, 0, 0, 1));
                illegal("b " + no, () -> s.often(0, 1, no, 0, 1));
                illegal("c " + no, () -> s.often(0, 1, 0, no, 1));
                illegal("d " + no, () -> s.often(0, 1, 0, 0, no));
                illegal("b of y " + no, () -> s.often(0, 0, no, 0, 1));
                illegal("c of y " + no, () -> s.often(0, 0, 1, no, 1));
                illegal("c of z " + no, () -> s.often(0, 0, 0, no, 1));
                illegal("d of z " + no, () -> s.often(0, 0, 0, 1, no));
                illegal("of 0", () -> s.often(5, 1, 0, 0, no));
            }
        }
        sentence("20 (behind that)");
        missing("both", () -> s.often(6, 0, 0, 0, 0));
        missing("both", () -> s.often(-1, 1, 0, 0, 5));
    }

    private void saying(String want, String program) {
        told(0, program);
        is("bytes of " + want, want.length(), s.say(0));
        isText("said", want, said());
    }

    private void promise21() {
        sentence("21 0 alone is 0");
        is("bytes", 1, s.say(0));
        isText("said", "0", said());
        saying("0", "a=x-x");
        sentence("21 the number (left out if it is 1 and a VARIABLE comes)");
        fresh(13);
        saying("1", "a=1");
        saying("x", "a=x");
        saying("y", "a=y");
        saying("z", "a=z");
        saying("2", "a=2");
        saying("9", "a=9");
        saying("10", "a=10");
        saying("12", "a=12");
        saying("12", "a=0-1");
        saying("2*x", "a=x*2");
        saying("12*z", "a=0-z");
        saying("10*y", "a=10*y");
        sentence("21 x, y, z with their EXPONENTS (^ and a number; left out if 1; not at all if 0)");
        fresh(13);
        saying("x*y*z", "a=x*y;b=a*z");
        saying("x*z", "a=z*x");
        saying("y*z", "a=z*y");
        saying("x^2", "a=x*x");
        saying("x*y^2", "a=y*y;b=a*x");
        saying("x^9*z^10", "a=x^9;b=z^5;c=b^2;d=a*c");
        saying("x^40*y^40*z^40", ALL_40);
        saying("11*x^11*y^39", "a=x^9;b=x*x;c=a*b;d=y^9;e=d^4;f=y^3;g=e*f;h=c*g;i=h*11");
        sentence("21 TERMS with + between, by ORDER 0");
        fresh(13);
        saying("x+y+z+1", "a=1+z;b=a+y;c=b+x");
        saying("z^2+12*x+1", "a=z^2;b=a-x;c=b+1");
        saying("x*y+x*z+y^2", "a=y*y;b=x*z;c=a+b;d=y*x;e=c+d");
        sentence("21 NoSuchElementException: no such PLACE");
        told(0, "a=x+1");
        s.say(0);
        for (int place : NO_PLACES) {
            missing("say(" + place + ")", () -> s.say(place));
        }
        sentence("21 each PLACE");
        for (int place = 0; place < 6; place++) {
            told(place, "a=x^" + (place + 2));
        }
        for (int place = 0; place < 6; place++) {
            isPoly(place, "x^" + (place + 2));
        }
    }

    private void promise21Longest() {
        sentence("21 how many bytes: of 300 TERMS, each as long as can be");
        fresh(13);
        // Ten, six and five TERMS with the number 1, together 12 times x^30 y^30 z^30.
        told(0, "a=x+1;b=x*x;c=b+1;d=a*c;e=b*b;f=d+e;g=e*x;h=g+1;i=f*h");
        isPoly(0, "x^9+x^8+x^7+x^6+x^5+x^4+x^3+x^2+x+1");
        told(1, "a=y+1;b=y*y;c=b+1;d=b*b;e=c+d;f=a*e");
        isPoly(1, "y^5+y^4+y^3+y^2+y+1");
        told(2, "a=z+1;b=z*z;c=b+1;d=a*c;e=b*b;f=d+e");
        isPoly(2, "z^4+z^3+z^2+z+1");
        told(3, "a=x*y;b=a*z;c=b^6;d=c^5;e=12*d");
        s.make(4, 2, 0, 1);
        s.make(4, 2, 4, 2);
        is("terms", 300, s.make(4, 2, 4, 3));
        is("bytes", 300 * 18 - 1, s.say(4));
        StringBuilder want = new StringBuilder();
        for (int i = 0; i < 300; i++) {
            want.append(i > 0 ? "+" : "").append("12*x^").append(s.term(4, 0, i, 1)).append("*y^").append(s.term(4, 0, i, 2));
            want.append("*z^").append(s.term(4, 0, i, 3));
        }
        isText("said", want.toString(), said());
        is("the last byte", '0', s.said(5398));
        is("behind it", -1, s.said(5399));
    }

    private void promise22() {
        sentence("22 NONE: nothing was SAID");
        for (int i : new int[] {0, 1, -1, LEAST, MOST}) {
            is("said(" + i + ")", -1, s.said(i));
        }
        told(0, "a=x");
        missing("say", () -> s.say(6));
        is("nor by a call that throws", -1, s.said(0));
        sentence("22 NONE: there is none such");
        told(0, "a=x+1");
        s.say(0);
        is("first", 'x', s.said(0));
        is("last", '1', s.said(2));
        for (int i : new int[] {-1, 3, 4, 5400, LEAST, MOST}) {
            is("said(" + i + ")", -1, s.said(i));
        }
        sentence("22 what the latest say() SAID");
        told(0, "a=x*y;b=a+z");
        told(1, "a=y");
        s.say(0);
        s.say(1);
        is("first", 'y', s.said(0));
        is("no more of the one ahead of it", -1, s.said(1));
        s.say(5);
        is("0", '0', s.said(0));
        is("behind", -1, s.said(1));
        sentence("22 (as it was then, whatever came since)");
        told(0, "a=x+2");
        s.say(0);
        told(0, "a=y");
        s.make(0, 2, 0, 0);
        s.undo();
        s.undo();
        s.undo();
        s.field(2);
        told(0, "a=");
        missing("say", () -> s.say(-1));
        isText("said", "x+2", said());
    }
}
