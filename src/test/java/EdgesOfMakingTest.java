import java.util.ArrayList;
import java.util.List;

/** Each sentence of promises 9 to 12, and of the terms behind them, that names a boundary case: a test of its own. */
public final class EdgesOfMakingTest extends Desk {
    // Six times seven and one more; over 13 no LINE goes into it.
    private static final String TERMS_43 = "a=y+1;b=a^5;c=z+1;d=c^6;e=b*d;f=y^6;g=e+f";

    private EdgesOfMakingTest() {
        super("EdgesOfMakingTest");
    }

    public static void main(String[] args) {
        EdgesOfMakingTest test = new EdgesOfMakingTest();
        test.promise9Places();
        test.promise9Sums();
        test.promise9Derivative();
        test.promise9Power();
        test.promise9Part();
        test.promise9Reduced();
        test.promise9Rest();
        test.promise9Common();
        test.promise9Turned();
        test.promise9None();
        test.promise9TooMuch();
        test.promise9NoneAhead();
        test.promise10();
        test.promise10None();
        test.promise10Powers();
        test.promise10TooMuch();
        test.promise11();
        test.promise11Refused();
        test.promise12();
        test.promise12Acts();
        test.promise12Twenty();
        test.checks.finish();
    }

    private void made(int want, String poly, int place, int how, int i, int j) {
        is("make(" + place + ", " + how + ", " + i + ", " + j + ")", want, s.make(place, how, i, j));
        isPoly(place, poly);
    }

    private void putting(int want, String poly, int place, int i, int variable, int j) {
        is("put(" + place + ", " + i + ", " + variable + ", " + j + ")", want, s.put(place, i, variable, j));
        isPoly(place, poly);
    }

    private void noMake(int want, int place, int how, int i, int j) {
        refused("make(" + place + ", " + how + ", " + i + ", " + j + ")", want, () -> s.make(place, how, i, j));
    }

    private void noPut(int want, int place, int i, int variable, int j) {
        refused("put(" + place + ", " + i + ", " + variable + ", " + j + ")", want, () -> s.put(place, i, variable, j));
    }

    private void promise9Places() {
        sentence("9 A PLACE has then: each of 0 to 5, also the one that it is made of");
        for (int place = 0; place < 6; place++) {
            for (int i = 0; i < 6; i++) {
                for (int j = 0; j < 6; j++) {
                    fresh(7);
                    told(i, "a=x+3");
                    told(j, "a=x+y");
                    String sum = i == j ? "2*x+2*y" : "2*x+y+3";
                    made(i == j ? 2 : 3, sum, place, 0, i, j);
                }
            }
        }
        sentence("9 the other PLACES stay");
        told(0, "a=x");
        told(1, "a=y");
        made(2, "x+y", 2, 0, 0, 1);
        isPoly(0, "x");
        isPoly(1, "y");
        made(1, "x^2", 0, 2, 0, 0);
        isPoly(2, "x+y");
    }

    private void promise9Sums() {
        sentence("9 together, less, times: with 0, and to 0");
        told(0, "a=x*y;b=a+2");
        made(2, "x*y+2", 1, 0, 0, 5);
        made(2, "x*y+2", 1, 0, 5, 0);
        made(2, "x*y+2", 1, 1, 0, 5);
        made(2, "4*x*y+3", 1, 1, 5, 0);
        made(0, "0", 1, 1, 0, 0);
        made(0, "0", 1, 0, 5, 5);
        made(0, "0", 1, 2, 5, 0);
        made(0, "0", 1, 2, 0, 5);
        made(0, "0", 1, 2, 5, 5);
        told(2, "a=x*y;b=4*a;c=b+3");
        made(0, "0", 1, 0, 0, 2);
        sentence("9 numbers are counted MOD P");
        for (int p : SIZES) {
            fresh(p);
            told(0, "a=x+1;b=a*" + (p - 1));
            told(1, "a=x");
            made(1, p == 2 ? "1" : p - 1 + "", 2, 0, 0, 1);
            made(p == 2 ? 1 : 2, p == 3 ? "x+2" : (p == 2 ? "1" : p - 2 + "*x+" + (p - 1)), 2, 1, 0, 1);
            made(p == 2 ? 2 : 3, p == 2 ? "x^2+1" : "x^2+2*x+1", 2, 2, 0, 0);
        }
    }

    private void promise9Derivative() {
        sentence("9 DERIVATIVE (0 of EXPONENT 0)");
        told(0, "a=x^5;b=y*x;c=a+b;d=z^6;e=c+d;f=e+3");
        made(1, "y", 1, 3, 0, 0);
        made(1, "x", 1, 3, 0, 1);
        made(1, "z^5", 1, 3, 0, 2);
        told(0, "a=4");
        for (int v = 0; v < 3; v++) {
            made(0, "0", 1, 3, 0, v);
            made(0, "0", 1, 3, 5, v);
        }
        sentence("9 DERIVATIVE: x to the P isn't x");
        for (int p : SIZES) {
            fresh(p);
            told(0, toTheP('x', p));
            is("EXPONENT P", p, s.of(0, 2));
            made(0, "0", 1, 3, 0, 0);
        }
        sentence("9 DERIVATIVE of EXPONENT 40 and 1");
        fresh(7);
        told(0, "a=y^8;b=a^5;c=x*b;d=z*c");
        made(1, "5*x*y^39*z", 1, 3, 0, 1);
        made(1, "y^40*z", 1, 3, 0, 0);
        made(1, "x*y^40", 1, 3, 0, 2);
    }

    private void promise9Power() {
        sentence("9 that of i to the j (0 to 9)");
        told(0, "a=x+y");
        String[] powers = {"1", "x+y", "x^2+2*x*y+y^2", "x^3+3*x^2*y+3*x*y^2+y^3", "x^4+4*x^3*y+x^2*y^2+4*x*y^3+y^4", "x^5+y^5"};
        int[] terms = {1, 2, 3, 4, 5, 2, 4, 6, 8, 10};
        for (int j = 0; j < 10; j++) {
            is("to the " + j, terms[j], s.make(1, 4, 0, j));
            if (j < powers.length) {
                isPoly(1, powers[j]);
            }
        }
        sentence("9 to the 0: 1, of 0, too");
        made(1, "1", 0, 4, 5, 0);
        made(0, "0", 0, 4, 5, 1);
        made(0, "0", 0, 4, 5, 9);
        told(1, "a=3");
        made(1, "1", 0, 4, 1, 0);
    }

    private void promise9Part() {
        sentence("9 PART of DEGREE j (0 to 120)");
        told(0, ALL_40 + ";i=h+b;j=i+d;k=j+f;l=x*y;m=k+l;n=m+2");
        is("terms", 6, s.of(0, 0));
        made(1, "x^40*y^40*z^40", 1, 5, 0, 120);
        made(0, "0", 1, 5, 0, 119);
        made(3, "x^40+y^40+z^40", 1, 5, 0, 40);
        made(0, "0", 1, 5, 0, 39);
        made(0, "0", 1, 5, 0, 41);
        made(1, "x*y", 1, 5, 0, 2);
        made(0, "0", 1, 5, 0, 1);
        made(1, "2", 1, 5, 0, 0);
        for (int j = 0; j <= 120; j++) {
            is("of 0", 0, s.make(1, 5, 5, j));
        }
    }

    private void promise9Reduced() {
        sentence("9 REDUCED: each EXPONENT of P or more less by P - 1, again and again");
        for (int p : SIZES) {
            for (int e = 0; e <= 40; e++) {
                fresh(p);
                int due = e;
                while (due >= p) {
                    due -= p - 1;
                }
                String power = "a=x^" + e / 9 + ";b=a^9;c=x^" + e % 9 + ";d=b*c";
                is("x^" + e, 1, told(0, power));
                is("reduced", 1, s.make(1, 6, 0, 0));
                is("x^" + e + " over " + p, due, s.of(1, 2));
                s.make(0, 9, 0, 2);
                s.make(1, 6, 0, 0);
                is("y^" + e + " over " + p, due, s.of(1, 3));
                s.make(0, 9, 0, 1);
                s.make(1, 6, 0, 0);
                is("z^" + e + " over " + p, due, s.of(1, 4));
            }
        }
        sentence("9 REDUCED: TERMS that become alike come together");
        told(0, "a=x^5;b=x^9;c=a+b;d=c+x");
        made(1, "3*x", 1, 6, 0, 0);
        told(0, "a=x^5;b=a-x;c=b*y;d=c+1");
        made(1, "1", 1, 6, 0, 0);
        told(0, "a=x^5;b=a-x");
        made(0, "0", 1, 6, 0, 0);
        sentence("9 REDUCED (j is any)");
        told(0, "a=x^5;b=a+1");
        for (int j : new int[] {LEAST, -1, 0, 6, 121, MOST}) {
            made(2, "x+1", 1, 6, 0, j);
            made(0, "0", 1, 6, 5, j);
        }
    }

    private void promise9Rest() {
        sentence("9 REST (j is any)");
        told(0, "a=x*x;b=a+2;c=x+y;d=c^3;e=b*d");
        for (int j : new int[] {LEAST, -1, 0, 6, 121, MOST}) {
            made(2, "x^2+2", 1, 7, 0, j);
        }
        sentence("9 REST of what no LINE goes into, and of LINES alone");
        told(0, "a=3");
        made(1, "3", 1, 7, 0, 0);
        told(0, "a=x*x;b=a+2");
        made(2, "x^2+2", 1, 7, 0, 0);
        told(0, "a=3*x;b=a+y");
        made(1, "3", 1, 7, 0, 0);
        told(0, ALL_40 + ";i=2*h");
        made(1, "2", 1, 7, 0, 0);
        sentence("9 REST after often() and after another P");
        told(0, "a=x+1;b=a*a;c=x*x;d=c+2;e=b*d");
        is("factors", 1, s.of(0, 6));
        is("often", 2, s.often(0, 1, 0, 0, 1));
        made(2, "x^2+2", 1, 7, 0, 0);
        is("often", 0, s.often(0, 1, 0, 0, 0));
        made(2, "x^2+2", 1, 7, 0, 0);
        s.field(3);
        told(0, "a=x*x;b=a+2");
        made(1, "1", 1, 7, 0, 0);
        sentence("9 NONE (nothing changes): of REST: it is 0");
        told(0, "a=x+1");
        noMake(-1, 0, 7, 5, 0);
        noMake(-1, 5, 7, 5, 0);
        noMake(-1, 0, 7, 1, 7);
    }

    private void promise9Common() {
        sentence("9 COMMON (of 0 and 0: 0)");
        told(0, "a=x");
        made(0, "0", 0, 8, 4, 5);
        made(0, "0", 0, 8, 5, 5);
        sentence("9 COMMON with 0, with a number");
        told(0, "a=2*x;b=a+3");
        made(2, "x+4", 1, 8, 0, 5);
        made(2, "x+4", 1, 8, 5, 0);
        told(2, "a=3");
        made(1, "1", 1, 8, 0, 2);
        made(1, "1", 1, 8, 2, 0);
        made(1, "1", 1, 8, 2, 2);
        made(1, "1", 1, 8, 2, 5);
        made(1, "1", 1, 8, 5, 2);
        made(2, "x+4", 1, 8, 0, 0);
        sentence("9 COMMON whose TERM of greatest EXPONENT has the number 1, up to EXPONENT 40");
        for (int p : SIZES) {
            fresh(p);
            told(0, "a=x^8;b=a^5;c=b*" + (p - 1));
            told(1, "a=x^9;b=a^4;c=x+1;d=b*c;e=d*" + (p - 1));
            made(1, "x^36", 2, 8, 0, 1);
            made(1, "x^36", 2, 8, 1, 0);
            made(1, "x^40", 2, 8, 0, 0);
        }
        sentence("9 COMMON of all numbers MOD P");
        for (int p : SIZES) {
            fresh(p);
            for (int n = 0; n < p * p * p; n++) {
                int twice = n % p;
                int one = n / p % p;
                int other = n / p / p;
                if (twice != one && twice != other && one != other) {
                    told(0, "a=x+" + twice + ";b=a^3;c=x+" + one + ";d=b*c;e=d*" + (p - 1));
                    told(1, "a=x+" + twice + ";b=a^2;c=x+" + other + ";d=b*c;e=d*" + (p - 2));
                    told(2, "a=x+" + twice + ";b=a^2");
                    s.make(3, 8, 0, 1);
                    isAnswer("COMMON", true, s.same(3, 2, false));
                    s.make(3, 8, 1, 0);
                    isAnswer("COMMON", true, s.same(3, 2, false));
                }
            }
        }
        sentence("9 COMMON of two that have only a number");
        told(0, "a=x+1;b=a^9;c=b*a");
        told(1, "a=x+2;b=a^9;c=b*a");
        made(1, "1", 2, 8, 0, 1);
        sentence("9 NONE (nothing changes): of COMMON: one has y or z");
        told(0, "a=x+1");
        String[] not = {"a=y", "a=z", "a=x+y", "a=x*z", "a=x^9;b=a+z", "a=y^8;b=a^5;c=b+x"};
        for (String text : not) {
            told(1, text);
            noMake(-1, 2, 8, 0, 1);
            noMake(-1, 2, 8, 1, 0);
            noMake(-1, 2, 8, 1, 1);
            noMake(-1, 2, 8, 5, 1);
            noMake(-1, 2, 8, 1, 5);
        }
    }

    private void promise9Turned() {
        sentence("9 TURNED by j (0 to 5)");
        told(0, "a=x*2;b=y*3;c=z*4;d=a+b;e=d+c;f=x^8;g=f^5;h=y^7;i=h^2;j=g*i;k=j*z;l=e+k");
        String[] turned = {"x^40*y^14*z+2*x+3*y+4*z", "x^40*y*z^14+2*x+4*y+3*z", "x^14*y^40*z+3*x+2*y+4*z",
            "x*y^40*z^14+4*x+2*y+3*z", "x^14*y*z^40+3*x+4*y+2*z", "x*y^14*z^40+4*x+3*y+2*z"};
        for (int j = 0; j < 6; j++) {
            made(4, turned[j], 1, 9, 0, j);
            made(0, "0", 1, 9, 5, j);
        }
        sentence("9 TURNED: a number stays");
        told(0, "a=3");
        for (int j = 0; j < 6; j++) {
            made(1, "3", 1, 9, 0, j);
        }
    }

    private void promise9None() {
        sentence("9 NONE (nothing changes): no such how");
        told(0, "a=x+1");
        for (int how : new int[] {-1, 10, 11, LEAST, MOST}) {
            noMake(-1, 0, how, 0, 0);
        }
        sentence("9 NONE (nothing changes): no such PLACES");
        told(0, "a=x+1");
        for (int no : NO_PLACES) {
            for (int how = 0; how < 10; how++) {
                noMake(-1, no, how, 0, 0);
                noMake(-1, 0, how, no, 0);
            }
            for (int how : new int[] {0, 1, 2, 8}) {
                noMake(-1, 0, how, 0, no);
            }
        }
        sentence("9 NONE (nothing changes): no such j");
        told(0, "a=x+1");
        int[][] noJ = {{3, -1}, {3, 3}, {3, LEAST}, {3, MOST}, {4, -1}, {4, 10}, {4, LEAST}, {4, MOST}, {5, -1}, {5, 121}, {5, LEAST}, {5, MOST},
            {9, -1}, {9, 6}, {9, LEAST}, {9, MOST}};
        for (int[] one : noJ) {
            noMake(-1, 0, one[0], 0, one[1]);
            noMake(-1, 0, one[0], 5, one[1]);
        }
    }

    private void promise9TooMuch() {
        sentence("9 -2 (nothing changes): TOO MUCH, more than 300 TERMS of two together or one less the other");
        fresh(13);
        is("300", 300, told(0, TERMS_300));
        told(1, "a=z^5");
        told(2, "a=1");
        for (int how = 0; how < 2; how++) {
            noMake(-2, 3, how, 0, 1);
            noMake(-2, 3, how, 1, 0);
            noMake(-2, 0, how, 0, 1);
        }
        is("299", 299, s.make(3, 1, 0, 2));
        is("300", 300, s.make(4, 0, 3, 1));
        is("300", 300, s.make(4, 1, 3, 1));
        noMake(-2, 4, 0, 0, 1);
        sentence("9 -2 (nothing changes): TOO MUCH, more than 300 TERMS of a product");
        fresh(13);
        told(0, "a=x+1;b=a^6");
        is("43", 43, told(1, TERMS_43));
        noMake(-2, 2, 2, 0, 1);
        noMake(-2, 0, 2, 1, 0);
        told(0, "a=x+1;b=a^9");
        is("30", 30, told(1, "a=y+1;b=a^5;c=z+1;d=c^4;e=b*d"));
        is("300", 300, s.make(2, 2, 0, 1));
        sentence("9 -2 (nothing changes): TOO MUCH, an EXPONENT above 40 of a product");
        for (int v = 0; v < 3; v++) {
            char name = (char) ('x' + v);
            told(0, "a=" + name + "^9;b=a^4");
            told(1, "a=" + name + "^4");
            told(2, "a=" + name + "^5");
            is("40", 1, s.make(3, 2, 0, 1));
            noMake(-2, 4, 2, 0, 2);
            noMake(-2, 0, 2, 2, 0);
            told(2, "a=" + name + "^5;b=a+1");
            noMake(-2, 4, 2, 0, 2);
        }
        told(0, ALL_40);
        noMake(-2, 1, 2, 0, 0);
        noMake(-2, 1, 4, 0, 9);
        sentence("9 -2 (nothing changes): TOO MUCH of REST");
        fresh(13);
        // Over 13 no LINE goes into x^6 + .. + 1 or x^4 + .. + 1, which is what is left of x^7 - 1 and x^5 - 1.
        told(0, TERMS_43);
        is("no LINES", 0, s.of(0, 6));
        told(1, "a=x^7;b=a-1");
        is("86", 86, s.make(2, 2, 0, 1));
        noMake(-2, 3, 7, 2, 0);
        noMake(-2, 2, 7, 2, 0);
        is("60", 60, told(0, "a=y+1;b=a^5;c=z+1;d=c^9;e=b*d;f=y^7;g=e+f;h=g-1"));
        is("no LINES", 0, s.of(0, 6));
        told(1, "a=x^5;b=a-1");
        is("120", 120, s.make(2, 2, 0, 1));
        is("300", 300, s.make(3, 7, 2, 0));
        powersTooMuch();
    }

    private void powersTooMuch() {
        sentence("9 -2 (nothing changes): of a POWER, TERMS and EXPONENTS");
        told(0, SQUARE_300);
        is("300", 300, s.make(1, 4, 0, 2));
        is("61", 61, told(0, SQUARE_301));
        noMake(-2, 1, 4, 0, 2);
        noMake(-2, 0, 4, 0, 2);
        for (int v = 0; v < 3; v++) {
            told(0, "a=" + (char) ('x' + v) + "^8;b=a+1");
            is("40", 2, s.make(1, 4, 0, 5));
            noMake(-2, 1, 4, 0, 6);
            noMake(-2, 1, 4, 0, 9);
        }
        sentence("9 -2 (nothing changes): of each POWER 1, 2, .. on the way, too");
        fresh(2);
        is("25", 25, told(0, THIRD_IS_MANY));
        is("25", 25, s.make(1, 4, 0, 2));
        noMake(-2, 2, 4, 0, 3);
        noMake(-2, 2, 4, 0, 4);
        is("25", 25, s.make(1, 4, 1, 2));
        fresh(3);
        is("85", 85, told(0, SECOND_IS_MANY));
        is("85", 85, s.make(1, 4, 0, 1));
        noMake(-2, 2, 4, 0, 2);
        noMake(-2, 2, 4, 0, 3);
        is("1", 1, s.make(1, 4, 0, 0));
    }

    private void promise9NoneAhead() {
        sentence("9 NONE, where it would be TOO MUCH as well");
        fresh(13);
        told(0, TERMS_300);
        told(1, "a=z^5");
        noMake(-1, 6, 0, 0, 1);
        noMake(-1, -1, 1, 0, 1);
        noMake(-1, 6, 2, 0, 0);
        noMake(-1, 6, 4, 0, 9);
        noMake(-1, 0, 4, 0, 10);
        told(0, "a=x^9;b=a^4");
        noMake(-1, 6, 2, 0, 0);
        noMake(-2, 5, 2, 0, 0);
    }

    private void promise10() {
        sentence("10 A PLACE has that of PLACE i, with that of PLACE j PUT INTO it: each of 0 to 5");
        for (int place = 0; place < 6; place++) {
            for (int i = 0; i < 6; i++) {
                for (int j = 0; j < 6; j++) {
                    fresh(7);
                    told(i, "a=x*y;b=a+3");
                    told(j, "a=x+y");
                    if (i == j) {
                        putting(2, "x+2*y", place, i, 0, j);
                    } else {
                        putting(3, "x*y+y^2+3", place, i, 0, j);
                    }
                }
            }
        }
        sentence("10 PUT INTO: in place of each VARIABLE, all at once");
        told(0, "a=x*x;b=a+y;c=b*z");
        told(1, "a=x+z");
        putting(4, "x^2*z+2*x*z^2+z^3+y*z", 2, 0, 0, 1);
        putting(3, "x^2*z+x*z+z^2", 2, 0, 1, 1);
        putting(4, "x^3+x^2*z+x*y+y*z", 2, 0, 2, 1);
        sentence("10 0, a number, a VARIABLE PUT INTO");
        told(0, "a=x*x;b=a+x;c=b*y;d=c+3");
        putting(1, "3", 2, 0, 0, 5);
        putting(1, "3", 2, 0, 1, 5);
        putting(3, "x^2*y+x*y+3", 2, 0, 2, 5);
        told(1, "a=2");
        putting(2, "y+3", 2, 0, 0, 1);
        told(1, "a=4");
        putting(1, "3", 2, 0, 0, 1);
        told(1, "a=y");
        putting(3, "y^3+y^2+3", 2, 0, 0, 1);
        sentence("10 PUT INTO 0, into a number");
        told(1, "a=x+y");
        told(2, "a=4");
        for (int v = 0; v < 3; v++) {
            putting(0, "0", 0, 5, v, 1);
            putting(1, "4", 0, 2, v, 1);
            putting(1, "4", 0, 2, v, 5);
            putting(0, "0", 0, 5, v, 5);
        }
    }

    private void promise10None() {
        sentence("10 NONE (nothing changes): no such PLACES");
        told(0, "a=x+1");
        for (int no : NO_PLACES) {
            noPut(-1, no, 0, 0, 0);
            noPut(-1, 0, no, 0, 0);
            noPut(-1, 0, 0, 0, no);
        }
        sentence("10 NONE (nothing changes): no such VARIABLE");
        told(0, "a=x+1");
        for (int no : new int[] {-1, 3, 4, LEAST, MOST}) {
            noPut(-1, 1, 0, no, 0);
        }
        sentence("10 NONE, where it would be TOO MUCH as well");
        told(0, "a=x^9;b=a^4");
        noPut(-2, 1, 0, 0, 0);
        noPut(-1, 6, 0, 0, 0);
        noPut(-1, 1, 0, 3, 0);
    }

    private void promise10Powers() {
        sentence("10 -2 (nothing changes): a POWER of that of j is that is needed");
        // y^42 - y^21 * y^21 is 0, but the second POWER is TOO MUCH.
        told(0, "a=y^7;b=a^3;c=b*x;d=x*x;e=d-c");
        told(1, "a=y^7;b=a^3");
        noPut(-2, 2, 0, 0, 1);
        told(0, "a=y^5;b=a^4;c=b*x;d=x*x;e=d-c");
        told(1, "a=y^5;b=a^4");
        putting(0, "0", 2, 0, 0, 1);
        for (int v = 0; v < 3; v++) {
            told(1, "a=" + (char) ('x' + v) + "^8");
            told(0, "a=y^5");
            is("40", 1, s.put(2, 0, 1, 1));
            is("40", 40, s.of(2, 2 + v));
            told(0, "a=y^6");
            noPut(-2, 2, 0, 1, 1);
        }
        told(0, ALL_40);
        told(1, "a=x^8;b=a^5");
        for (int v = 0; v < 3; v++) {
            noPut(-2, 2, 0, v, 0);
        }
        noPut(-2, 2, 1, 0, 0);
        noPut(-2, 2, 0, 2, 1);
        sentence("10 to the greatest EXPONENT of the VARIABLE: no more of them are needed");
        told(1, "a=x^8;b=a^5;c=b+y");
        told(0, "a=y*z;b=z+a");
        putting(2, "y*z+z", 2, 0, 0, 1);
        told(0, "a=y*z;b=x+a");
        putting(3, "x^40+y*z+y", 2, 0, 0, 1);
        told(0, "a=x*x;b=y+a");
        noPut(-2, 2, 0, 0, 1);
        sentence("10 of a POWER, TERMS");
        told(0, "a=x*x");
        told(1, SQUARE_300);
        is("300", 300, s.put(2, 0, 0, 1));
        told(1, SQUARE_301);
        noPut(-2, 2, 0, 0, 1);
        sentence("10 all less ones, too");
        fresh(2);
        told(1, THIRD_IS_MANY);
        String[] powers = {"a=1", "a=x", "a=x^2", "a=x^3", "a=x^4"};
        int[] due = {1, 25, 25, -2, -2};
        for (int k = 0; k < 5; k++) {
            told(0, powers[k]);
            is("x^" + k, due[k], s.put(2, 0, 0, 1));
        }
        fresh(3);
        told(1, SECOND_IS_MANY);
        told(0, "a=x^3");
        noPut(-2, 2, 0, 0, 1);
        told(0, "a=x");
        is("85", 85, s.put(2, 0, 0, 1));
    }

    private void promise10TooMuch() {
        sentence("10 -2 (nothing changes): TOO MUCH, more than 300 TERMS");
        fresh(11);
        // Over 11 (n + 1)^20 has 20 terms and (n + 1)^26 has 15.
        is("300", 300, told(0, "a=y+1;b=a^5;c=b^4;d=z+1;e=d^2;f=d^8;g=f^3;h=e*g;i=c*h;j=i-1;k=j+x"));
        told(1, "a=x+1");
        noPut(-2, 2, 0, 0, 1);
        noPut(-2, 0, 0, 0, 1);
        told(1, "a=x");
        is("300", 300, s.put(2, 0, 0, 1));
        told(1, "a=1");
        is("300", 300, s.put(2, 0, 0, 1));
        is("299", 299, s.put(2, 0, 0, 5));
        sentence("10 -2 (nothing changes): TOO MUCH, an EXPONENT above 40");
        for (int v = 0; v < 3; v++) {
            char name = (char) ('x' + v);
            char other = (char) ('x' + (v + 1) % 3);
            told(0, "a=" + name + "^8;b=a^5;c=b*" + other);
            told(1, "a=" + name);
            noPut(-2, 2, 0, (v + 1) % 3, 1);
            told(1, "a=" + other + "+1");
            is("40", 2, s.put(2, 0, (v + 1) % 3, 1));
            told(0, "a=" + name + "^8;b=a^4;c=b*" + other);
            told(1, "a=" + name + "^8;b=a+2");
            is("40", 2, s.put(2, 0, (v + 1) % 3, 1));
            told(1, "a=" + name + "^9;b=a+2");
            noPut(-2, 2, 0, (v + 1) % 3, 1);
        }
        sentence("10 EXPONENTS above 40 that cancel are none of what comes out");
        told(0, "a=y^8;b=a^4;c=b*x;d=y^7;e=d*d;f=x*x;g=f*e;h=c-g");
        isPoly(0, "x*y^32+4*x^2*y^14");
        told(1, "a=y^9;b=a*a");
        putting(0, "0", 2, 0, 0, 1);
    }

    /** The numbers as the tape's first bytes, and other ones behind them up to twenty. */
    private void feedNumbers(int[] numbers, int behind) {
        StringBuilder text = new StringBuilder();
        for (int k = 0; k < 20; k++) {
            text.append((char) (k < numbers.length ? numbers[k] : behind));
        }
        feedText(text.toString());
    }

    private void promise11() {
        sentence("11 The tape's first P bytes are numbers: those behind them may be any");
        for (int p : SIZES) {
            for (int first = 0; first < p; first++) {
                fresh(p);
                int[] numbers = new int[p];
                for (int x = 0; x < p; x++) {
                    numbers[x] = (first + x * x * x) % p;
                }
                feedNumbers(numbers, 255);
                is("terms are those that it has", s.fit(3), s.of(3, 0));
                for (int x = 0; x < p; x++) {
                    is("where x is " + x, numbers[x], s.value(3, x, p - 1, 1));
                }
                is("EXPONENTS below P", 1, s.of(3, 2) < p ? 1 : 0);
                is("x alone", 1, s.of(3, 3) <= 0 && s.of(3, 4) <= 0 ? 1 : 0);
            }
        }
        sentence("11 what is FIT: 0, a number, x, EXPONENT P - 1");
        for (int p : SIZES) {
            fresh(p);
            feedNumbers(new int[p], p);
            is("0", 0, s.fit(0));
            int[] same = new int[p];
            int[] rising = new int[p];
            int[] last = new int[p];
            for (int x = 0; x < p; x++) {
                same[x] = p - 1;
                rising[x] = x;
            }
            last[p - 1] = 1;
            feedNumbers(same, 0);
            is("a number", 1, s.fit(0));
            isPoly(0, Integer.toString(p - 1));
            feedNumbers(rising, 0);
            is("x", 1, s.fit(0));
            isPoly(0, "x");
            feedNumbers(last, 0);
            s.fit(0);
            is("EXPONENT P - 1", p - 1, s.of(0, 2));
        }
        sentence("11 it is empty then, whatever comes of it");
        feedNumbers(new int[5], 0);
        feedNumbers(new int[5], 0);
        s.fit(0);
        is("bytes", 0, s.count(2));
        feedNumbers(new int[] {5}, 0);
        feedNumbers(new int[5], 0);
        is("NONE", -1, s.fit(0));
        is("bytes", 0, s.count(2));
        sentence("11 each PLACE, and the other ones stay");
        for (int place = 0; place < 6; place++) {
            feedNumbers(new int[] {place % 5, 1, 1, 1, 1}, 0);
            s.fit(place);
        }
        for (int place = 0; place < 6; place++) {
            is("where x is 0", place % 5, s.value(place, 0, 0, 0));
        }
        is("no PROGRAM by it", 0, s.count(1));
    }

    private void promise11Refused() {
        sentence("11 NONE (the tape is empty then; all else stays): one is P or more");
        for (int p : SIZES) {
            for (int at = 0; at < p; at++) {
                for (int no : new int[] {p, p + 1, 127, 128, 255}) {
                    fresh(p);
                    told(0, "a=x+1");
                    told(1, "a=q");
                    s.say(0);
                    String state = state();
                    int[] numbers = new int[p];
                    numbers[at] = no;
                    feedNumbers(numbers, 0);
                    is(no + " at " + at, -1, s.fit(0));
                    isText("all else", state, state());
                }
            }
        }
        sentence("11 IllegalArgumentException (ahead of that, and nothing changes): no such PLACE");
        told(0, "a=x+1");
        feedNumbers(new int[] {1, 1, 1, 1, 1}, 0);
        for (int place : NO_PLACES) {
            illegal("fit(" + place + ")", () -> s.fit(place));
        }
        is("the bytes are still there", 1, s.fit(1));
        isPoly(1, "1");
        feedNumbers(new int[] {5, 9, 255, 6, 7}, 0);
        for (int place : NO_PLACES) {
            illegal("fit(" + place + "), one is P or more", () -> s.fit(place));
            is("bytes", 20, s.count(2));
        }
        sentence("11 IllegalArgumentException (ahead of that, and nothing changes): the tape has not so many");
        for (int p : SIZES) {
            fresh(p);
            illegal("of a new one", () -> s.fit(0));
            feedNumbers(new int[p], 0);
            s.fit(0);
            illegal("again", () -> s.fit(0));
            illegal("and no such PLACE", () -> s.fit(6));
            told(0, "a=x");
            illegal("behind tell", () -> s.fit(0));
        }
    }

    private void promise12() {
        sentence("12 NONE: none can");
        refused("of a new one", -1, () -> s.undo());
        told(0, "a=x");
        is("one", 0, s.undo());
        refused("no more", -1, () -> s.undo());
        refused("no more", -1, () -> s.undo());
        isPoly(0, "0");
        sentence("12 tell(), make(), put(), fit(): each is an act");
        told(0, "a=x");
        is("tell", 1, s.count(3));
        s.make(0, 0, 0, 0);
        is("make", 2, s.count(3));
        s.put(0, 0, 0, 0);
        is("put", 3, s.count(3));
        s.feed(0, 0, 0, 0, 0);
        s.fit(0);
        is("fit", 4, s.count(3));
        isPoly(0, "0");
        is("fit undone", 3, s.undo());
        isPoly(0, "4*x");
        is("put undone", 2, s.undo());
        isPoly(0, "2*x");
        is("make undone", 1, s.undo());
        isPoly(0, "x");
        is("tell undone", 0, s.undo());
        isPoly(0, "0");
        sentence("12 also the one that it had");
        told(0, "a=x");
        told(0, "a=x");
        s.make(0, 9, 0, 0);
        s.make(0, 4, 0, 1);
        s.put(0, 0, 1, 5);
        s.make(5, 5, 5, 0);
        is("acts", 6, s.count(3));
        for (int left = 5; left > 0; left--) {
            is("undo", left, s.undo());
            isPoly(0, "x");
        }
        is("the first one", 0, s.undo());
        isPoly(0, "0");
        sentence("12 (The PROGRAM stays.)");
        told(0, "a=x;b=a+1");
        told(0, "c=y;d=c*c;e=d-1");
        s.undo();
        isPoly(0, "x+1");
        is("steps", 3, s.count(1));
        is("NAME", 3, s.step(0, 3));
        s.undo();
        is("steps", 3, s.count(1));
        is("value", 3, s.at(2, false, 0, 2, 0));
        sentence("12 what it does not name stays");
        told(0, "a=x");
        s.say(0);
        told(1, "a=q");
        feedText("a=y");
        s.undo();
        isText("all but the PLACE", "fault 2 said x counts 5 1 20 0 step 1 1 1 1 1 0 0 place place place place place place", state());
    }

    private void promise12Acts() {
        sentence("12 by which a PLACE got one: what was refused is no act");
        told(0, "a=x^9;b=a^4");
        told(1, "a=y");
        feedText("a=x");
        illegal("tell", () -> s.tell(6, 3));
        illegal("tell", () -> s.tell(0, 21));
        s.tell(0, 0);
        told(0, "a=q");
        told(0, "a=x^9;b=a^9");
        s.make(6, 0, 0, 0);
        s.make(0, 10, 0, 0);
        s.make(0, 7, 5, 0);
        s.make(0, 2, 0, 0);
        s.make(0, 4, 0, 2);
        s.put(6, 0, 0, 0);
        s.put(0, 0, 3, 0);
        s.put(0, 0, 0, 0);
        illegal("fit", () -> s.fit(0));
        s.feed(-1, 0, 0, 0, 0);
        s.fit(0);
        s.field(4);
        is("acts", 2, s.count(3));
        is("the latest one is the one of PLACE 1", 1, s.undo());
        isPoly(1, "0");
        isPoly(0, "x^36");
        sentence("12 what only asks is no act");
        told(0, "a=x+1");
        s.say(0);
        s.of(0, 6);
        s.often(0, 1, 0, 0, 1);
        s.witness(0, 1);
        s.step(0, 5);
        s.at(0, true, 0, 0, 0);
        is("acts", 1, s.count(3));
        s.undo();
        is("undo itself is none", 0, s.count(3));
    }

    private String places() {
        String state = state();
        return state.substring(state.indexOf(" place"));
    }

    private int act(int k) {
        int place = k * 5 % 6;
        switch (k % 4) {
            case 0:
                return told(place, "a=x+" + k % 5 + ";b=a*y");
            case 1:
                return s.make(place, k / 4 % 2, (k + 1) % 6, k % 6);
            case 2:
                return s.put(place, (k + 3) % 6, k % 3, 5);
            default:
                feedNumbers(new int[] {k % 5, k * k % 5, 1, k % 3, 0}, 0);
                return s.fit(place);
        }
    }

    private void promise12Twenty() {
        sentence("12 the latest 20: how many still can be");
        for (int acts : new int[] {1, 2, 19, 20, 21, 22, 39, 40, 41, 45, 60}) {
            fresh(5);
            List<String> before = new ArrayList<>();
            for (int k = 0; k < acts; k++) {
                before.add(places());
                act(k);
                is("kept of " + (k + 1), Math.min(k + 1, 20), s.count(3));
            }
            int kept = Math.min(acts, 20);
            for (int k = 1; k <= kept; k++) {
                is("undo " + k + " of " + acts, kept - k, s.undo());
                isText("as it was ahead of act " + (acts - k), before.get(acts - k), places());
            }
            refused("the one ahead of these is kept no more", -1, () -> s.undo());
        }
        sentence("12 the latest 20, some undone and others come");
        List<String> before = new ArrayList<>();
        for (int round = 0; round < 30; round++) {
            for (int k = 0; k < round % 7 * 3 + 1; k++) {
                String places = places();
                if (act(round * 3 + k) >= 0) {
                    before.add(places);
                }
                if (before.size() > 20) {
                    before.remove(0);
                }
            }
            for (int k = 0; k < round % 5 * 4 && !before.isEmpty(); k++) {
                is("undo", before.size() - 1, s.undo());
                isText("as it was", before.remove(before.size() - 1), places());
            }
            is("kept", before.size(), s.count(3));
        }
    }
}
