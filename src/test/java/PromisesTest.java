/** Each promise of the document with answers worked out by hand: ordinary inputs, edges, wrong inputs. */
public final class PromisesTest extends Desk {
    private PromisesTest() {
        super("PromisesTest");
    }

    public static void main(String[] args) {
        PromisesTest test = new PromisesTest();
        test.promise1();
        test.promise2();
        test.promise3();
        test.promise4Texts();
        test.promise4TooMuch();
        test.promise4State();
        test.promise5();
        test.promise6();
        test.promise7();
        test.promise8();
        test.promise9Sums();
        test.promise9Parts();
        test.promise9Rest();
        test.promise9Common();
        test.promise9Wrong();
        test.promise10();
        test.promise11();
        test.promise12();
        test.promise13();
        test.promise14();
        test.promise15();
        test.promise16();
        test.promises17And18();
        test.promises19And20();
        test.promises21And22();
        test.checks.finish();
    }

    private void promise1() {
        fresh(5);
        is("new: NONE", -1, StraightPolys.NONE);
        is("new: P", 5, s.count(0));
        is("new: steps", 0, s.count(1));
        is("new: bytes", 0, s.count(2));
        is("new: acts", 0, s.count(3));
        is("new: fault", -1, s.fault());
        is("new: said", -1, s.said(0));
        is("new: undo", -1, s.undo());
        for (int place = 0; place < 6; place++) {
            is("new: terms", 0, s.of(place, 0));
        }
    }

    private void promise2() {
        fresh(5);
        int before = 5;
        for (int p : SIZES) {
            is("field", before, s.field(p));
            is("P", p, s.count(0));
            before = p;
        }
        told(0, "a=");
        told(2, "a=x;b=a+1");
        feedText("tape");
        s.say(2);
        for (int p : new int[] {4, 1, 0, -2, -13, 9, 17, 26, Integer.MAX_VALUE, Integer.MIN_VALUE}) {
            is("no field " + p, -1, s.field(p));
        }
        is("nothing changed: P", 13, s.count(0));
        is("nothing changed: steps", 2, s.count(1));
        is("nothing changed: acts", 1, s.count(3));
        is("nothing changed: terms", 2, s.of(2, 0));
        is("the same P", 13, s.field(13));
        is("all 0", 0, s.of(2, 0));
        is("no program", 0, s.count(1));
        is("no acts", 0, s.count(3));
        is("undo", -1, s.undo());
        is("the tape stays", 20, s.count(2));
        is("what was said stays", 'x', s.said(0));
        missing("no step", () -> s.step(0, 0));
        s.tell(0, 0);
        told(0, "a=");
        s.field(7);
        is("the fault stays", 2, s.fault());
    }

    private void promise3() {
        fresh(2);
        is("feed", 20, s.feed(0x00010000, 0, 0, 0, 0));
        is("fit to 0, 1", 1, s.fit(0));
        isPoly(0, "x");
        is("feed", 20, s.feed(0x01000000, 0, 0, 0, 0));
        is("fit to 1, 0", 2, s.fit(0));
        s.feed(-1, -1, -1, -1, -1);
        is("bytes are 0 to 255", -1, s.fit(0));
        for (int k = 1; k <= 10; k++) {
            is("feed", 20 * k, s.feed('a' << 24 | '=' << 16 | 'x' << 8 | ';', 0, 0, 0, 0x7f7f7f7f));
        }
        is("no more than 200", -1, s.feed(1, 2, 3, 4, 5));
        is("none came", 200, s.count(2));
        is("the first bytes", 1, s.tell(0, 3));
        is("the tape is empty", 0, s.count(2));
        feedText("a  =x +   1 ;b=a*a; ");
        is("all five numbers", 2, s.tell(0, 20));
        isPoly(0, "x^2+1");
    }

    private void promise4Texts() {
        fresh(13);
        told("a=x", 1, -1);
        told(" a\n= x + 1 ;\n ", 2, -1);
        told("a=007;b=a*x;c=b+00000000000099", 2, -1);
        isPoly(0, "7*x+8");
        told("w=z;a=w-y;b=a*w", 2, -1);
        isPoly(0, "12*y*z+z^2");
        told("a=0^0", 1, -1);
        told("a=0;b=a^00", 1, -1);
        isPoly(0, "1");
        told("a=x^0;b=a-1", 0, -1);
        told("a=26", 0, -1);
        told("a=x^9", 1, -1);
        told("a=3-x", 2, -1);
        isPoly(0, "12*x+3");
        told("a=1;b=1;c=1;d=1;e=1;f=1;g=1;h=1;i=1;j=1;k=1;l=1;m=1;n=1;o=1;p=1;q=1;r=1;s=1;t=1;u=1;v=1;w=v+u;", 1, -1);
        told("a=1;b=1;c=1;d=1;e=1;f=1;g=1;h=1;i=1;j=1;k=1;l=1;m=1;n=1;o=1;p=1;q=1;r=1;s=1;t=1;u=1;v=1;w=v+u;a=2", -13, 94);
        // 1: a token, or the end, that can't stand there.
        told("", -11, 0);
        told("   ", -11, 3);
        told(";", -11, 0);
        told("x=1", -11, 0);
        told("y=1", -11, 0);
        told("z=1", -11, 0);
        told("A=1", -11, 0);
        told("1=x", -11, 0);
        told("a", -11, 1);
        told("a ", -11, 2);
        told("a==x", -11, 2);
        told("a=", -11, 2);
        told("a=;", -11, 2);
        told("a=-1", -11, 2);
        told("a=x y", -11, 4);
        told("a=1 2", -11, 4);
        told("a=x+", -11, 4);
        told("a=x+y+z", -11, 5);
        told("a=x^2^2", -11, 5);
        told("a=x^", -11, 4);
        told("a=x^x", -11, 4);
        told("a=x^a", -11, 4);
        told("a=x;;", -11, 4);
        told("a=x; ;", -11, 5);
        told("a=x;1", -11, 4);
        told("a=x;b", -11, 5);
        told("a=x,b=y", -11, 3);
        told("a\t=x", -11, 1);
        told("a=x" + (char) 13, -11, 3);
        told("a=" + (char) 0, -11, 2);
        told("a=" + (char) 255, -11, 2);
        told("a=(x)", -11, 2);
        told("ab=x", -11, 1);
        // 2: numbers.
        told("a=100", -12, 2);
        told("a=x+100", -12, 4);
        told("a=x^10", -12, 4);
        told("a= 4294967296", -12, 3);
        told("a=x^18446744073709551616", -12, 4);
        told("a=100;;", -12, 2);
        // 3: names.
        told("a=a", -13, 2);
        told("a=b;b=x", -13, 2);
        told("a=x;a=y", -13, 4);
        told("a=x;a", -13, 4);
        told("a=x+b", -13, 4);
        told("a=x;b=a+b", -13, 8);
    }

    private void promise4TooMuch() {
        fresh(5);
        told("a=x^8;b=a^5", 1, -1);
        told("a=x^9;b=a^5", -2, -1);
        told("a=x^9;b=a^4;c=b*a", -2, -1);
        told("a=y^8;b=a^5;c=b*y", -2, -1);
        told("a=z^8;b=a^5;c=b*z", -2, -1);
        // A step that is too much is so even if nothing stands on it.
        told("a=x^9;b=a^5;c=1", -2, -1);
        // Behind a step that is too much a fault is still the fault.
        told("a=x^9;b=a^5;c=d", -13, 14);
        fresh(13);
        told("a=x+y;b=z+1;c=a+b;d=c^9", 220, -1);
        told("a=x+y;b=z+1;c=a+b;d=c^9;e=d*c", 286, -1);
        told("a=x+y;b=z+1;c=a+b;d=c^9;e=d*c;f=e*c", -2, -1);
        // 0 times anything is 0.
        told("a=x^9;b=a^4;c=0*b;d=c*b", 0, -1);
        // Powers on the way: the fourth one has few terms, the third one many.
        fresh(2);
        is("many of 2", 25, told(1, THIRD_IS_MANY));
        told(THIRD_IS_MANY + ";o=n^2", 25, -1);
        told(THIRD_IS_MANY + ";o=n^4", -2, -1);
        told(THIRD_IS_MANY + ";o=n^2;p=o^2", 25, -1);
    }

    private void promise4State() {
        fresh(5);
        is("tell", 2, told(3, "a=x;b=a+1"));
        is("fault", -11, told(3, "a=x;b=a+"));
        is("too much", -2, told(3, "a=x^9;b=a^9;c=2"));
        is("the program stays", 2, s.count(1));
        is("its names stay", 2, s.step(1, 3));
        isPoly(3, "x+1");
        is("acts", 1, s.count(3));
        feedText("a=x");
        s.tell(0, 5);
        illegal("empty", () -> s.tell(0, 1));
        feedText("a=x");
        illegal("no place", () -> s.tell(6, 3));
        illegal("no place", () -> s.tell(-1, 3));
        illegal("too many", () -> s.tell(0, 21));
        illegal("below 0", () -> s.tell(0, -1));
        illegal("below 0", () -> s.tell(0, Integer.MIN_VALUE));
        is("nothing changed", 20, s.count(2));
        is("all bytes", 1, s.tell(5, 20));
        isPoly(5, "x");
        feedText("a=x+1");
        is("fewer bytes", 1, s.tell(5, 3));
        is("the tape is empty", 0, s.count(2));
        is("no bytes", -11, s.tell(0, 0));
    }

    private void promise5() {
        fresh(5);
        told(0, "a=x;b=q");
        is("fault", 6, s.fault());
        feedText("a=x");
        illegal("tell", () -> s.tell(0, 99));
        is("fault as before", 6, s.fault());
        s.tell(0, 3);
        is("none now", -1, s.fault());
        told(0, "a=");
        told(0, "a=x^9;b=a^9");
        is("too much is no fault", -1, s.fault());
    }

    private void promise6() {
        fresh(7);
        told(0, "a=x;b=y;c=a*b;");
        s.make(1, 0, 0, 0);
        feedText("123");
        is("P", 7, s.count(0));
        is("steps", 3, s.count(1));
        is("bytes", 20, s.count(2));
        is("acts", 2, s.count(3));
        missing("count", () -> s.count(4));
        missing("count", () -> s.count(-1));
    }

    private void promise7() {
        fresh(5);
        told(0, "d=x*y;b=d-d;c=b^9;w=c+d;e=w*w;f=y*x;g=f^0;h=3;i=d+h;j=i*i");
        int[][] want = {
            {2, 2, 1, 4, 1, 0, 3}, {2, -1, 0, 2, 0, 1, 1}, {18, -1, 0, 3, 0, 1, 1}, {18, 2, 1, 23, 0, 0, 1}, {36, 4, 1, 5, 0, 4, 0},
            {2, 2, 1, 6, 0, 0, 1}, {0, 0, 1, 7, 0, 6, 0}, {0, 0, 1, 8, 1, 7, 1}, {2, 2, 2, 9, 1, 8, 1}, {4, 4, 3, 10, 1, 9, 0}};
        for (int step = 0; step < want.length; step++) {
            for (int what = 0; what < 7; what++) {
                is("step " + step + " what " + what, want[step][what], s.step(step, what));
            }
        }
        missing("no step", () -> s.step(10, 0));
        missing("no step", () -> s.step(-1, 0));
        missing("no what", () -> s.step(0, 7));
        missing("no what", () -> s.step(0, -1));
        told(0, "a=x-x;b=a^9;c=b^9;d=c^9;e=d^9;f=e^9;g=f^9;h=g^9;i=h^9;j=i+h;k=h^0;l=i*y;m=7");
        is("bound", 531441, s.step(6, 0));
        is("at most", 999999, s.step(7, 0));
        is("at most again", 999999, s.step(8, 0));
        is("the greater", 999999, s.step(9, 0));
        is("to the 0", 0, s.step(10, 0));
        is("at most of *", 999999, s.step(11, 0));
        is("a number", 0, s.step(12, 0));
        is("undo leaves the program", 1, s.undo());
        is("undo leaves the program", 13, s.count(1));
    }

    private void promise8() {
        fresh(7);
        told(0, "a=x*y;b=a+z;c=b^3;d=c-a;e=d;f=y*2");
        // x, y, z = 2, 3, 5: a = 6, b = 4, c = 64 = 1, d = 1 - 6 = 2, f = 6.
        int[] values = {6, 4, 1, 2, 2, 6};
        for (int step = 0; step < 6; step++) {
            int k = step;
            due("value", values[k], () -> s.at(k, false, 2, 3, 5));
            due("turn", k == 5 ? 1 : 0, () -> s.at(k, true, 2, 3, 5));
        }
        told(0, "a=x*y;b=a+z;c=b^3;d=c-a;e=d");
        // of c 1, of b 3 * 16 = 48 = 6, of a 6 - 1 = 5.
        int[] turns = {5, 6, 1, 1, 1};
        for (int step = 0; step < 5; step++) {
            int k = step;
            due("turn", turns[k], () -> s.at(k, true, 2, 3, 5));
        }
        told(0, "a=x;b=a*a;c=a-b;d=b*c;e=c^0;f=d+e;g=f^1");
        // x = 3: a 3, b 2, c 1, d 2; d' = 1, c' = 2, b' = 1 - 2 = 6, a' = 2 + 6 * 6 = 38 = 3.
        due("twice an atom", 3, () -> s.at(0, true, 3, 0, 0));
        due("two ways", 6, () -> s.at(1, true, 3, 0, 0));
        due("to the 0", 0, () -> s.at(4, true, 3, 0, 0) - 1);
        due("value", 3, () -> s.at(6, false, 3, 0, 0));
        told(0, "a=x;b=a^1;c=b^7");
        due("of ^1 where it is 0", 0, () -> s.at(0, true, 0, 0, 0));
        told(0, "a=x;b=a^1");
        due("of ^1 where it is 0", 1, () -> s.at(0, true, 0, 0, 0));
        told(0, "a=x^0;b=a*y");
        due("0 to the 0", 6, () -> s.at(1, false, 0, 6, 0));
        missing("no step, ahead of no point", () -> s.at(2, false, 7, 0, 0));
        missing("no step", () -> s.at(-1, true, 0, 0, 0));
        illegal("no point", () -> s.at(0, false, 7, 0, 0));
        illegal("no point", () -> s.at(0, true, 0, -1, 0));
        illegal("no point", () -> s.at(0, true, 0, 0, 7));
        fresh(5);
        missing("no program", () -> s.at(0, false, 0, 0, 0));
    }

    private void made(int want, String poly, int place, int how, int i, int j) {
        is("make(" + place + ", " + how + ", " + i + ", " + j + ")", want, s.make(place, how, i, j));
        isPoly(place, poly);
    }

    private void promise9Sums() {
        fresh(5);
        told(0, "a=x*x;b=3*y;c=a+b;d=c+1");
        told(1, "a=2*y;b=a*z;c=y*2;d=b+c;e=d+4");
        made(2, "x^2+2*y*z", 2, 0, 0, 1);
        made(4, "x^2+3*y*z+y+2", 2, 1, 0, 1);
        made(3, "x^2+3*y+1", 2, 0, 0, 5);
        made(3, "4*x^2+2*y+4", 2, 1, 5, 0);
        made(0, "0", 2, 1, 0, 0);
        made(0, "0", 2, 2, 0, 5);
        made(0, "0", 2, 2, 5, 0);
        made(6, "x^4+x^2*y+2*x^2+4*y^2+y+1", 2, 2, 0, 0);
        made(1, "1", 3, 4, 5, 0);
        made(0, "0", 3, 4, 5, 9);
        made(3, "x^2+3*y+1", 3, 4, 0, 1);
        made(6, "x^4+x^2*y+2*x^2+4*y^2+y+1", 3, 4, 0, 2);
        made(3, "x^10+3*y^5+1", 4, 4, 0, 5);
        made(6, "x^4+x^2*y+2*x^2+4*y^2+y+1", 0, 4, 0, 2);
        told(0, "a=x^9;b=a^4;c=b+1");
        told(1, "a=x^5");
        is("41", -2, s.make(2, 2, 0, 1));
        told(1, "a=x^4");
        made(2, "x^40+x^4", 2, 2, 0, 1);
        is("72", -2, s.make(2, 4, 0, 2));
        isPoly(2, "x^40+x^4");
        // 220 and 165 TERMS apart are more than 300 together.
        fresh(13);
        told(0, "a=x+y;b=z+1;c=a+b;d=c^9");
        told(1, "a=x^9;b=a*x;c=x+y;d=z+1;e=c+d;f=e^8;g=f*b");
        is("first", 220, s.of(0, 0));
        is("second", 165, s.of(1, 0));
        is("385", -2, s.make(2, 0, 0, 1));
        is("385", -2, s.make(2, 1, 0, 1));
        is("nothing changed", 0, s.of(2, 0));
        is("acts", 2, s.count(3));
        told(1, "a=x^9;b=a*x;c=x+y;d=z+1;e=c+d;f=e^5;g=f*b");
        is("56", 56, s.of(1, 0));
        is("276", 276, s.make(2, 0, 0, 1));
        told(3, "a=y^9;b=a*y;c=x+y;d=z+1;e=c+d;f=e^3;g=y+z;h=g+1;i=z^2;j=e+i;k=j*b");
        is("5", 5, s.of(3, 0));
        is("281", 281, s.make(2, 0, 2, 3));
    }

    private void promise9Parts() {
        fresh(5);
        told(0, "a=x^5;b=a*y;c=x*y;d=b+c;e=z^3;f=d+e;g=f+2");
        made(1, "y", 1, 3, 0, 0);
        made(2, "x^5+x", 1, 3, 0, 1);
        made(1, "3*z^2", 1, 3, 0, 2);
        made(0, "0", 1, 3, 5, 2);
        made(1, "x^5*y", 1, 5, 0, 6);
        made(1, "2", 1, 5, 0, 0);
        made(0, "0", 1, 5, 0, 1);
        made(0, "0", 1, 5, 0, 120);
        made(3, "z^3+2*x*y+2", 1, 6, 0, -77);
        made(0, "0", 1, 6, 5, 99);
        told(0, "a=x^9;b=a^4;c=y^9;d=b+c;e=z^8;f=d+e;g=x^4;h=f-g;i=y^5;j=h+i");
        // Of 36: 32, 28, .. 4; of 9: 5, 1; of 8: 4; of 5: 1.
        made(2, "z^4+2*y", 1, 6, 0, 0);
        fresh(2);
        told(0, "a=x^9;b=y^2;c=a*b;d=c+x;e=d+1");
        made(3, "x*y+x+1", 0, 6, 0, 0);
        fresh(5);
        told(0, "a=y^2;b=z^3;c=x*a;d=c*b");
        String[] turned = {"x*y^2*z^3", "x*y^3*z^2", "x^2*y*z^3", "x^3*y*z^2", "x^2*y^3*z", "x^3*y^2*z"};
        for (int j = 0; j < 6; j++) {
            made(1, turned[j], 1, 9, 0, j);
        }
        made(0, "0", 1, 9, 5, 5);
    }

    private void promise9Rest() {
        fresh(5);
        told(0, "a=x+1;b=a^2;c=x*x;d=c+2;e=b*d;f=3*e;g=z+y;h=g*f");
        made(2, "3*x^2+1", 1, 7, 0, 12345);
        told(0, "a=3");
        made(1, "3", 1, 7, 0, 0);
        is("of 0", -1, s.make(1, 7, 5, 0));
        isPoly(1, "3");
        // Over 2 each of x^7 - 1, y^7 - 1, z^7 - 1 has one line and seven terms left: 343.
        fresh(2);
        told(0, "a=x^7;b=a-1;c=y^7;d=c-1;e=z^7;f=e-1;g=b*d;h=g*f");
        is("lines", 3, s.of(0, 6));
        is("343", -2, s.make(1, 7, 0, 0));
        told(0, "a=x^7;b=a-1;c=y^7;d=c-1;e=z^5;f=e-1;g=b*d;h=g*f");
        is("245", 245, s.make(1, 7, 0, 0));
        // A quotient on the way has far more than 300 terms.
        fresh(13);
        told(0, "a=x^9;b=x^4;c=a*b;d=y^9;e=y^4;f=d*e;g=z^9;h=z^4;i=g*h;j=c+f;k=i+1;l=j+k;m=l^2;n=2*m");
        is("terms", 10, s.of(0, 0));
        is("one line", 1, s.of(0, 6));
        is("often", 26, s.of(0, 7));
        made(1, "2", 1, 7, 0, 0);
    }

    private void promise9Common() {
        fresh(5);
        told(0, "a=x+1;b=x+2;c=a*b;d=a*c;e=2*d");
        told(1, "a=x+1;b=x+3;c=a^3;d=b*c;e=3*d");
        made(3, "x^2+2*x+1", 2, 8, 0, 1);
        made(3, "x^2+2*x+1", 2, 8, 1, 0);
        made(3, "x^3+4*x^2+2", 2, 8, 0, 5);
        made(3, "x^3+4*x^2+2", 2, 8, 5, 0);
        made(0, "0", 2, 8, 5, 5);
        told(3, "a=4");
        made(1, "1", 2, 8, 3, 0);
        made(1, "1", 2, 8, 3, 5);
        made(1, "1", 2, 8, 3, 3);
        told(3, "a=y");
        is("with y", -1, s.make(2, 8, 3, 0));
        is("with y", -1, s.make(2, 8, 0, 3));
        is("with y, and 0", -1, s.make(2, 8, 5, 3));
        told(3, "a=z+x");
        is("with z", -1, s.make(2, 8, 3, 0));
        is("with z", -1, s.make(2, 8, 0, 3));
        isPoly(2, "1");
        told(0, "a=x^8;b=a^5");
        told(1, "a=x^9;b=a^4;c=b+x");
        made(1, "x", 2, 8, 0, 1);
        made(1, "x", 2, 8, 1, 0);
    }

    private void promise9Wrong() {
        fresh(5);
        told(0, "a=x+1");
        int[][] wrong = {{6, 0, 0, 0}, {-1, 0, 0, 0}, {0, 10, 0, 0}, {0, -1, 0, 0}, {0, 0, 6, 0}, {0, 0, -1, 0}, {0, 0, 0, 6}, {0, 1, 0, -1},
            {0, 2, 0, 6}, {0, 3, 0, 3}, {0, 3, 0, -1}, {0, 4, 0, 10}, {0, 4, 0, -1}, {0, 5, 0, 121}, {0, 5, 0, -1}, {0, 6, 6, 0}, {6, 6, 0, 0},
            {0, 7, 1, 0}, {0, 7, -1, 0}, {6, 7, 0, 0}, {0, 8, 0, 6}, {0, 8, 0, -1}, {0, 9, 0, 6}, {0, 9, 0, -1}, {0, 9, 7, 0},
            {Integer.MAX_VALUE, Integer.MAX_VALUE, Integer.MAX_VALUE, Integer.MAX_VALUE}};
        for (int[] w : wrong) {
            due("make of " + w[0] + " " + w[1] + " " + w[2] + " " + w[3], -1, () -> s.make(w[0], w[1], w[2], w[3]));
        }
        isPoly(0, "x+1");
        is("acts", 1, s.count(3));
    }

    private void promise10() {
        fresh(5);
        told(0, "a=x*x;b=a*y;c=b+z;d=c+3");
        told(1, "a=x+y");
        is("put", 5, s.put(2, 0, 0, 1));
        isPoly(2, "x^2*y+2*x*y^2+y^3+z+3");
        is("put", 4, s.put(2, 0, 1, 1));
        isPoly(2, "x^3+x^2*y+z+3");
        is("put", 4, s.put(2, 0, 2, 1));
        isPoly(2, "x^2*y+x+y+3");
        is("0 for x", 2, s.put(2, 0, 0, 5));
        isPoly(2, "z+3");
        is("into 0", 0, s.put(2, 5, 0, 1));
        int[][] wrong = {{6, 0, 0, 1}, {-1, 0, 0, 1}, {2, 6, 0, 1}, {2, -1, 0, 1}, {2, 0, 3, 1}, {2, 0, -1, 1}, {2, 0, 0, 6}, {2, 0, 0, -1}};
        for (int[] w : wrong) {
            due("put of " + w[0] + " " + w[1] + " " + w[2] + " " + w[3], -1, () -> s.put(w[0], w[1], w[2], w[3]));
        }
        // 50 and 50 cancel: what comes of it is not TOO MUCH.
        told(0, "a=y^9;b=y^2;c=a*a;d=b*c;e=c*c;f=e*x;g=y^9;h=a^3;i=y^8;j=h*i;k=x*j;l=x*x;m=l*d;n=m-k;o=n+x");
        isPoly(0, "4*x*y^35+x^2*y^20+x");
        told(1, "a=y^9;b=y^6;c=a*b");
        is("put of y^15", 1, s.put(2, 0, 0, 1));
        isPoly(2, "y^15");
        told(1, "a=y^9;b=y^7;c=a*b");
        is("y^52 - y^51", -2, s.put(2, 0, 0, 1));
        isPoly(2, "y^15");
        // x^3 of y^14: y^42.
        told(0, "a=x^3");
        told(1, "a=y^7;b=a*a");
        is("42", -2, s.put(2, 0, 0, 1));
        told(3, "a=x^4");
        told(4, "a=y^5;b=a*a");
        is("40", 1, s.put(2, 3, 0, 4));
        isPoly(2, "y^40");
        is("not needed", 1, s.put(2, 0, 1, 1));
        isPoly(2, "x^3");
        // Lesser powers count too: over 2 the fourth one has few terms, the third one many.
        fresh(2);
        told(0, THIRD_IS_MANY);
        told(1, "a=x^4");
        is("third", -2, s.put(2, 1, 0, 0));
        told(1, "a=x^2");
        is("second", 25, s.put(2, 1, 0, 0));
        told(1, "a=y^9");
        is("none needed", 1, s.put(2, 1, 0, 0));
        // 301 terms and more.
        fresh(13);
        told(0, "a=x+y;b=z+1;c=a+b");
        told(1, "a=x^9");
        is("220", 220, s.put(2, 1, 0, 0));
        told(1, "a=x^9;b=x*x;c=a*b");
        is("364", -2, s.put(2, 1, 0, 0));
    }

    private void promise11() {
        fresh(5);
        s.feed(0x00010404, 0x01000000, 0, 0, 0);
        is("squares", 1, s.fit(0));
        isPoly(0, "x^2");
        is("tape", 0, s.count(2));
        s.feed(0x03030303, 0x03ffffff, 0, 0, 0);
        is("a number", 1, s.fit(1));
        isPoly(1, "3");
        s.feed(0, 0, 0, 0, 0);
        is("0", 0, s.fit(2));
        s.feed(0x01000000, 0, 0, 0, 0);
        is("1 at 0", 2, s.fit(2));
        isPoly(2, "4*x^4+1");
        s.feed(0x00000001, 0x05000000, 0, 0, 0);
        is("5", -1, s.fit(2));
        s.feed(0x05000000, 0, 0, 0, 0);
        is("5 first", -1, s.fit(2));
        is("the tape is empty", 0, s.count(2));
        isPoly(2, "4*x^4+1");
        is("acts", 4, s.count(3));
        illegal("too few", () -> s.fit(2));
        s.feed(0x05000000, 0, 0, 0, 0);
        illegal("no place, ahead of 5", () -> s.fit(6));
        illegal("no place", () -> s.fit(-1));
        is("nothing changed", 20, s.count(2));
        for (int p : SIZES) {
            fresh(p);
            s.feed(0x01010001, 0x00010100, 0x00010000, 0x01000000, 0);
            s.fit(0);
            int[] want = {1, 1, 0, 1, 0, 1, 1, 0, 0, 1, 0, 0, 1};
            for (int x = 0; x < p; x++) {
                is("value of fit", want[x], s.value(0, x, 0, p - 1));
            }
            is("exponents below P", 1, s.of(0, 2) < p && s.of(0, 3) <= 0 && s.of(0, 4) <= 0 ? 1 : 0);
        }
    }

    private void promise12() {
        fresh(5);
        is("none", -1, s.undo());
        told(0, "a=x");
        told(0, "a=y");
        s.make(1, 0, 0, 0);
        s.put(0, 1, 1, 0);
        s.feed(0, 0, 0, 0, 0);
        s.fit(0);
        told(0, "a=");
        s.make(0, 7, 5, 0);
        is("acts", 5, s.count(3));
        is("fit", 4, s.undo());
        isPoly(0, "2*y");
        is("put", 3, s.undo());
        isPoly(0, "y");
        is("make", 2, s.undo());
        isPoly(1, "0");
        is("tell", 1, s.undo());
        isPoly(0, "x");
        is("tell", 0, s.undo());
        isPoly(0, "0");
        is("none", -1, s.undo());
        is("the program stays", 1, s.count(1));
        told(0, "a=1");
        for (int k = 0; k < 24; k++) {
            s.make(k % 5 + 1, 9, 0, 0);
            told(0, "a=" + k % 5);
        }
        is("at most 20", 20, s.count(3));
        for (int k = 19; k >= 0; k--) {
            is("undo", k, s.undo());
        }
        is("none", -1, s.undo());
        isPoly(0, "3");
        isPoly(4, "2");
        // An act that gives a place what it has counts.
        s.make(0, 9, 0, 0);
        is("counts", 0, s.undo());
    }

    private void promise13() {
        fresh(5);
        told(0, "a=x*x;b=y^3;c=a*b;d=c+z;e=d-4");
        int[] want = {3, 5, 2, 3, 1, 25, 0, 0, 0};
        for (int what = 0; what < 9; what++) {
            is("of what " + what, want[what], s.of(0, what));
        }
        int[] ofZero = {0, -1, -1, -1, -1, 125, 0, 0, 1};
        for (int what = 0; what < 9; what++) {
            is("of 0 what " + what, ofZero[what], s.of(1, what));
        }
        told(1, "a=2");
        int[] ofTwo = {1, 0, 0, 0, 0, 0, 0, 0, 1};
        for (int what = 0; what < 9; what++) {
            is("of 2 what " + what, ofTwo[what], s.of(1, what));
        }
        told(1, "a=x+y;b=x-z;c=a*a;d=b*c;e=d*y");
        is("one degree", 1, s.of(1, 8));
        told(2, "a=x*x;b=a+y");
        is("two degrees", 0, s.of(2, 8));
        told(2, "a=2*x;b=a+3");
        is("a line itself", 1, s.of(2, 6));
        is("factors", 3, s.of(1, 6));
        is("all", 4, s.of(1, 7));
        // x + y = 0, x = z or y = 0: 25 each, 5 in each two of them, 1 in all.
        is("zeros", 61, s.of(1, 5));
        missing("no what", () -> s.of(0, 9));
        missing("no what", () -> s.of(0, -1));
        missing("no place", () -> s.of(6, 0));
        missing("no place", () -> s.of(-1, 0));
        fresh(13);
        is("zeros of 0", 2197, s.of(3, 5));
        told(0, "a=x^9;b=x^4;c=a*b;d=c-x");
        is("zeros", 2197, s.of(0, 5));
        is("factors", 13, s.of(0, 6));
        told(0, "a=x^9;b=x^4;c=a*b;d=y^9;e=y^4;f=d*e;g=c*y;h=f*x;i=g-h");
        is("zeros", 2197, s.of(0, 5));
        is("factors", 14, s.of(0, 6));
        is("all", 14, s.of(0, 7));
        told(1, "a=x^9;b=x^4;c=a*b;d=c-x;e=y^9;f=y^4;g=e*f;h=g-y;i=z^9;j=z^4;k=i*j;l=k-z;m=d*h;n=m*l");
        is("factors", 39, s.of(1, 6));
        is("factor 38", 12, s.factor(1, 38, 3));
        told(1, "a=x^8;b=a^5;c=y^8;d=c^5;e=z^8;f=e^5;g=b*d;h=g*f");
        is("all of x^40 y^40 z^40", 120, s.of(1, 7));
        is("x", 40, s.often(1, 1, 0, 0, 0));
    }

    private void promise14() {
        fresh(7);
        // x^2 z + 2 x y^3 + 3 y z^3 + 4 x y z + 5 y^2 z^2 + 6 z
        told(0, "a=x*z;b=a*x;c=y^3;d=x*c;e=2*d;f=z^3;g=f*y;h=3*g;i=a*y;j=4*i;k=y*z;l=k*k;m=5*l;n=6*z;o=b+e;p=h+j;q=m+n;r=o+p;s=r+q");
        isPoly(0, "2*x*y^3+5*y^2*z^2+3*y*z^3+x^2*z+4*x*y*z+6*z");
        int[][] want = {{2, 5, 3, 1, 4, 6}, {1, 2, 4, 5, 3, 6}, {3, 5, 4, 1, 6, 2}};
        int[][] monomials = {{0, 0, 0}, {2, 0, 1}, {1, 3, 0}, {0, 1, 3}, {1, 1, 1}, {0, 2, 2}, {0, 0, 1}};
        for (int order = 0; order < 3; order++) {
            for (int i = 0; i < 6; i++) {
                int number = want[order][i];
                is("order " + order + " term " + i, number, s.term(0, order, i, 0));
                for (int v = 0; v < 3; v++) {
                    is("order " + order + " term " + i + " exponent", monomials[number][v], s.term(0, order, i, v + 1));
                }
            }
        }
        missing("no place", () -> s.term(6, 0, 0, 0));
        missing("no place", () -> s.term(-1, 0, 0, 0));
        missing("no order", () -> s.term(0, 3, 0, 0));
        missing("no order", () -> s.term(0, -1, 0, 0));
        missing("no term", () -> s.term(0, 0, 6, 0));
        missing("no term", () -> s.term(0, 0, -1, 0));
        missing("no what", () -> s.term(0, 0, 0, 4));
        missing("no what", () -> s.term(0, 0, 0, -1));
        missing("no term of 0", () -> s.term(1, 0, 0, 0));
    }

    private void promise15() {
        fresh(7);
        told(0, "a=x^9;b=a^4;c=x^4;d=b*c;e=3*d;f=y*z;g=e+f");
        is("number", 3, s.number(0, 40, 0, 0));
        is("number", 1, s.number(0, 0, 1, 1));
        is("number", 0, s.number(0, 0, 0, 0));
        is("number", 0, s.number(0, 41, 0, 0));
        is("number", 0, s.number(0, 39, 63, 64));
        is("number", 0, s.number(0, 0, 0, 65));
        told(1, "a=x^9;b=a^4;c=y^9;d=c^4;e=y^4;f=d*e;g=z^9;h=g^4;i=z^4;j=h*i;k=f+j;l=k+x;m=l+y");
        is("y^40", 1, s.number(1, 0, 40, 0));
        is("z^40", 1, s.number(1, 0, 0, 40));
        is("not x", 0, s.number(1, 0, 64, 0));
        is("not y", 0, s.number(1, 0, 0, 64));
        is("degree in y", 40, s.of(1, 3));
        is("number", 0, s.number(0, Integer.MAX_VALUE, Integer.MAX_VALUE, Integer.MAX_VALUE));
        illegal("below 0", () -> s.number(0, -1, 0, 0));
        illegal("below 0", () -> s.number(0, 0, -1, 0));
        illegal("below 0", () -> s.number(0, 50, 50, -1));
        missing("no place, ahead of that", () -> s.number(6, -1, 0, 0));
        missing("no place", () -> s.number(-1, 0, 0, 0));
    }

    private void promise16() {
        fresh(7);
        told(0, "a=x^3;b=a*y;c=z^0;d=b-z;e=d+4");
        // 27 * 5 - 6 + 4 = 133 = 0; 8 * 5 - 6 + 4 = 38 = 3.
        is("value", 0, s.value(0, 3, 5, 6));
        is("value", 3, s.value(0, 2, 5, 6));
        is("value", 4, s.value(0, 0, 0, 0));
        is("value of 0", 0, s.value(1, 1, 1, 1));
        // 40 is 4 mod 6: 3^4 = 81 = 4.
        told(2, "a=x^8;b=a^5");
        is("x^40", 4, s.value(2, 3, 0, 0));
        told(2, "a=y^8;b=a^5");
        is("y^40", 4, s.value(2, 0, 3, 0));
        told(2, "a=z^8;b=a^5");
        is("z^40", 4, s.value(2, 0, 0, 3));
        illegal("no point", () -> s.value(0, 7, 0, 0));
        illegal("no point", () -> s.value(0, 0, 7, 0));
        illegal("no point", () -> s.value(0, 0, 0, -1));
        missing("no place, ahead of that", () -> s.value(6, 7, 0, 0));
        missing("no place", () -> s.value(-1, 0, 0, 0));
    }

    private void promises17And18() {
        fresh(3);
        told(0, "a=x^3;b=a*y;c=b+1");
        told(1, "a=x*y;b=a+1");
        told(2, "a=y*x;b=1+a");
        told(3, "a=z*z;b=x*y;c=b+1;d=x-2;e=a*d;f=c+e");
        is("same", 1, s.same(1, 2, false) ? 1 : 0);
        is("not same", 0, s.same(0, 1, false) ? 1 : 0);
        is("agree", 1, s.same(0, 1, true) ? 1 : 0);
        is("same with itself", 1, s.same(3, 3, false) && s.same(3, 3, true) ? 1 : 0);
        is("don't agree", 0, s.same(3, 1, true) ? 1 : 0);
        is("agree", -1, s.witness(0, 2));
        // z z (x - 2) isn't 0 first where x = 0, y = 0, z = 1.
        is("witness", 1, s.witness(1, 3));
        is("witness", 1, s.witness(3, 0));
        told(3, "a=x-2;b=a^2;c=b-1;d=y-2;e=d^2;f=e-1;g=c*f;h=z*g;i=x*y;j=i+1;k=h+j");
        // (n - 2)^2 - 1 is 0 where n is 0 or 1, so they differ first where x = 2, y = 2, z = 1.
        is("witness", 2 * 9 + 2 * 3 + 1, s.witness(1, 3));
        missing("no place", () -> s.witness(6, 0));
        missing("no place", () -> s.witness(0, -1));
        missing("no place", () -> s.same(6, 0, false) ? 1 : 0);
        missing("no place", () -> s.same(0, -1, true) ? 1 : 0);
        missing("no place", () -> s.same(0, 6, false) ? 1 : 0);
    }

    private void isFactor(int k, int a, int b, int c, int d, int often) {
        int[] want = {a, b, c, d, often};
        for (int what = 0; what < 5; what++) {
            is("factor " + k + " what " + what, want[what], s.factor(0, k, what));
        }
        is("often", often, s.often(0, a, b, c, d));
    }

    private void promises19And20() {
        fresh(5);
        // 2 (z + 3)^2 y (y + 2 z + 1) (x + 4 y + z)^3 (x + 4 y + 2) (x^2 + 2)
        told(0, "a=z+3;b=a^2;c=z+z;d=y+c;e=d+1;f=y*e;g=4*y;h=x+g;i=h+z;j=i^3;k=h+2;l=x^2;m=l+2;n=b*f;o=j*k;p=m*n;q=o*p;r=2*q");
        is("factors", 5, s.of(0, 6));
        is("all", 8, s.of(0, 7));
        isFactor(0, 1, 4, 0, 2, 1);
        isFactor(1, 1, 4, 1, 0, 3);
        isFactor(2, 0, 1, 0, 0, 1);
        isFactor(3, 0, 1, 2, 1, 1);
        isFactor(4, 0, 0, 1, 3, 2);
        is("no factor", 0, s.often(0, 1, 0, 0, 0));
        is("no factor", 0, s.often(0, 0, 0, 1, 2));
        is("of 0", -1, s.often(1, 1, 0, 0, 0));
        missing("no factor", () -> s.factor(0, 5, 0));
        missing("no factor", () -> s.factor(0, -1, 0));
        missing("no what", () -> s.factor(0, 0, 5));
        missing("no what", () -> s.factor(0, 0, -1));
        missing("no factor of 0", () -> s.factor(1, 0, 0));
        missing("no place", () -> s.factor(6, 0, 0));
        missing("no place", () -> s.factor(-1, 0, 0));
        int[][] noLines = {{0, 0, 0, 0}, {0, 0, 0, 1}, {2, 0, 0, 0}, {0, 2, 0, 0}, {0, 0, 2, 0}, {0, 3, 1, 0}, {5, 0, 0, 0}, {-1, 0, 0, 0}, {1, 5, 0, 0},
            {1, -1, 0, 0}, {1, 0, 5, 0}, {1, 0, -1, 0}, {1, 0, 0, 5}, {1, 0, 0, -1}, {6, 0, 0, 0}};
        for (int[] l : noLines) {
            illegal("no line", () -> s.often(0, l[0], l[1], l[2], l[3]));
            illegal("no line, ahead of 0", () -> s.often(1, l[0], l[1], l[2], l[3]));
            missing("no place, ahead of no line", () -> s.often(6, l[0], l[1], l[2], l[3]));
        }
        // What vanishes at all points of a plane has not always its line.
        told(0, "a=x^5;b=a-x;c=y^5;d=c-y;e=b*z;f=d+e");
        is("zeros", 125, s.of(0, 5));
        is("no factors", 0, s.of(0, 6));
        fresh(2);
        told(0, "a=x+y;b=a+z;c=a*b;d=c*x;e=y+1;f=d*e;g=y+z;h=f*g;i=z*h;j=i*h");
        is("factors", 6, s.of(0, 6));
        isFactor(0, 1, 0, 0, 0, 2);
        isFactor(1, 1, 1, 0, 0, 2);
        isFactor(2, 1, 1, 1, 0, 2);
        isFactor(3, 0, 1, 0, 1, 2);
        isFactor(4, 0, 1, 1, 0, 2);
        isFactor(5, 0, 0, 1, 0, 1);
        // What is known of one polynomial is not taken for another one's.
        s.make(0, 3, 0, 2);
        is("factors of another", 5, s.of(0, 6));
        s.undo();
        is("factors again", 6, s.of(0, 6));
        s.field(3);
        is("factors of 0", 0, s.of(0, 6));
    }

    private void said(String want, String program) {
        told(0, program);
        isPoly(0, want);
        is("length", want.length(), s.say(0));
        is("ahead", -1, s.said(-1));
        is("behind", -1, s.said(want.length()));
    }

    private void promises21And22() {
        fresh(13);
        is("nothing said", -1, s.said(0));
        said("0", "a=0");
        said("1", "a=1");
        said("12", "a=12");
        said("x", "a=x");
        said("12*x", "a=12*x");
        said("x*y*z", "a=x*y;b=a*z");
        said("12*x^2*y*z^10+11", "a=x*x;b=a*y;c=z^5;d=c*c;e=b*d;f=12*e;g=f-2");
        said("y^2+x+y+z+1", "a=x+y;b=z+1;c=a+b;d=y*y;e=c+d");
        missing("no place", () -> s.say(6));
        missing("no place", () -> s.say(-1));
        is("as it was", 'y', s.said(0));
        told(0, "a=x");
        s.field(2);
        is("as it was", '^', s.said(1));
        is("as it was", '1', s.said(10));
        is("behind", -1, s.said(Integer.MAX_VALUE));
        is("ahead", -1, s.said(Integer.MIN_VALUE));
        // The longest one that there is room for.
        fresh(13);
        told(0, "a=x^9;b=a^3;c=y^9;d=c^3;e=z^9;f=e^3;g=b*d;h=g*f;i=x+y;j=z+1;k=i+j;l=k^9;m=l*k;n=m*h");
        is("terms", 286, s.of(0, 0));
        int length = s.say(0);
        is("last", '7', s.said(length - 1));
        is("behind", -1, s.said(length));
    }
}
