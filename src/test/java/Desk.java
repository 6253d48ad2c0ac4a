import java.util.ArrayList;
import java.util.List;

/** What the tests of answers worked out by hand have in common: an object at hand, ways to feed it and to look at all of it. */
class Desk {
    static final int[] SIZES = {2, 3, 5, 7, 11, 13};
    static final int[] NO_PLACES = {-1, 6, 7, Integer.MIN_VALUE, Integer.MAX_VALUE};
    static final int LEAST = Integer.MIN_VALUE;
    static final int MOST = Integer.MAX_VALUE;

    // Over 13 (n + 1)^k has k + 1 terms if k is below 13: ten, six and five of them.
    static final String TERMS_300 = "a=x+1;b=a^9;c=y+1;d=c^5;e=z+1;f=e^4;g=b*d;h=g*f";
    static final String ALL_40 = "a=x^8;b=a^5;c=y^8;d=c^5;e=z^8;f=e^5;g=b*d;h=g*f";
    // Over 5: what this one makes has 15 * 5 * 4 terms in its square; the next one's has 15 * 16, 60 with z, and z^2.
    static final String SQUARE_300 = "a=x+1;b=a^7;c=y+1;d=c^2;e=z+1;f=e^3;g=b*d;h=g*f";
    static final String SQUARE_301 = "a=x+1;b=a^7;c=y+1;d=c^9;e=b*d;f=e+z";
    // Over 2: 25 terms; its second and fourth powers have as many, its third one more than 300.
    static final String THIRD_IS_MANY = "a=x+1;b=a^7;c=y+1;d=c^7;e=z+1;f=e^7;g=b*x;h=d*y;i=f*z;j=x*y;k=j*z;l=g+h;m=l+i;n=m+k";
    // Over 3: 81 terms and four apart; the square has 324 of both and more, the cube as many as the first power.
    static final String SECOND_IS_MANY = "a=x+1;b=a^8;c=y+1;d=c^8;e=b*d;f=z+1;g=f^4;h=e*x;i=g*z;j=h+i";

    final Checks checks;
    StraightPolys s = new StraightPolys();
    private String sentence = "";

    Desk(String name) {
        checks = new Checks(name);
    }

    /** The document's words that the checks from here on are of, and a new object. */
    void sentence(String words) {
        sentence = words + ": ";
        fresh(5);
    }

    void fresh(int p) {
        s = new StraightPolys();
        if (p != 5) {
            s.field(p);
        }
    }

    void is(String what, int want, int got) {
        checks.dueText(sentence + what, Integer.toString(want), Integer.toString(got));
    }

    void isText(String what, String want, String got) {
        checks.dueText(sentence + what, want, got);
    }

    void isAnswer(String what, boolean want, boolean got) {
        isText(what, Boolean.toString(want), Boolean.toString(got));
    }

    void due(String what, int want, Checks.Call call) {
        checks.due(sentence + what, want, call);
    }

    void missing(String what, Checks.Call call) {
        refused(what, "NoSuchElement", call);
    }

    void illegal(String what, Checks.Call call) {
        refused(what, "IllegalArgument", call);
    }

    void refused(String what, int want, Checks.Call call) {
        refused(what, Integer.toString(want), call);
    }

    private void refused(String what, String want, Checks.Call call) {
        String before = state();
        isText(what, want, Checks.answerOf(call));
        isText(what + ", nothing changes", before, state());
    }

    /** A text as numbers for feed(), five for each twenty bytes, with blanks behind it. */
    static List<int[]> words(String text) {
        List<int[]> all = new ArrayList<>();
        for (int i = 0; i == 0 || i < text.length(); i += 20) {
            int[] w = new int[5];
            for (int k = 0; k < 20; k++) {
                w[k / 4] = w[k / 4] << 8 | (i + k < text.length() ? text.charAt(i + k) : ' ');
            }
            all.add(w);
        }
        return all;
    }

    /** A text that makes a variable to the P, as its step c. */
    static String toTheP(char variable, int p) {
        return "a=" + variable + "^" + Math.min(p, 9) + ";b=" + variable + "^" + Math.max(p - 9, 0) + ";c=a*b";
    }

    void feedText(String text) {
        for (int[] w : words(text)) {
            s.feed(w[0], w[1], w[2], w[3], w[4]);
        }
    }

    int told(int place, String text) {
        feedText(text);
        return s.tell(place, text.length());
    }

    void told(String text, int want, int fault) {
        is("tell " + text, want, told(0, text));
        is("fault of " + text, fault, s.fault());
        is("the tape is empty", 0, s.count(2));
    }

    String said() {
        StringBuilder text = new StringBuilder();
        for (int i = 0; s.said(i) >= 0; i++) {
            text.append((char) s.said(i));
        }
        return text.toString();
    }

    String poly(int place) {
        s.say(place);
        return said();
    }

    void isPoly(int place, String want) {
        isText("place " + place, want, poly(place));
    }

    /** All that can be asked without changing anything. */
    String state() {
        StringBuilder all = new StringBuilder("fault " + s.fault() + " said " + said() + " counts");
        for (int what = 0; what < 4; what++) {
            all.append(' ').append(s.count(what));
        }
        for (int step = 0; step < s.count(1); step++) {
            all.append(" step");
            for (int what = 0; what < 7; what++) {
                all.append(' ').append(s.step(step, what));
            }
        }
        for (int place = 0; place < 6; place++) {
            all.append(" place");
            for (int i = 0; i < s.of(place, 0); i++) {
                all.append(' ').append(s.term(place, 1, i, 0));
                for (int what = 1; what < 4; what++) {
                    all.append('.').append(s.term(place, 1, i, what));
                }
            }
        }
        return all.toString();
    }
}
