/** Each sentence of promises 1 to 8, and of the terms behind them, that names a boundary case: a test of its own. */
public final class EdgesOfProgramsTest extends Desk {
    private static final String FIGURES = "0123456789";
    private static final String NAMES = "abcdefghijklmnopqrstuvw";
    private static final String BLANKS = " \n";

    // Six times seven and one more, times seven.
    private static final String TERMS_43 = "a=x+1;b=a^6;c=y+1;d=c^5;e=z+1;f=e^6;g=d*f;h=y^6;i=g+h";
    private EdgesOfProgramsTest() {
        super("EdgesOfProgramsTest");
    }

    public static void main(String[] args) {
        EdgesOfProgramsTest test = new EdgesOfProgramsTest();
        test.promise1();
        test.promise2();
        test.promise2Kept();
        test.promise3();
        test.promise3Full();
        test.promise4Bytes();
        test.promise4Illegal();
        test.promise4Tokens();
        test.promise4Numbers();
        test.promise4Names();
        test.promise4FirstFault();
        test.promise4Steps();
        test.promise4Exponents();
        test.promise4Terms();
        test.promise4Powers();
        test.promise4AtHand();
        test.promise5();
        test.promise6();
        test.promise7();
        test.promise7Bound();
        test.promise7Missing();
        test.promise8();
        test.promise8Turn();
        test.checks.finish();
    }

    private void fill() {
        for (int place = 0; place < 6; place++) {
            told(place, "a=x+" + (place + 1) + ";b=a*y;c=b-z");
        }
    }

    private void promise1() {
        sentence("1 P 5, all PLACES 0");
        is("NONE", -1, StraightPolys.NONE);
        isText("all of it", "fault -1 said  counts 5 0 0 0 place place place place place place", state());
        is("no act to undo", -1, s.undo());
        for (int place = 0; place < 6; place++) {
            is("degree", -1, s.of(place, 1));
            isPoly(place, "0");
        }
    }

    private void promise2() {
        sentence("2 Another P: the one before");
        for (int before : SIZES) {
            for (int p : SIZES) {
                fresh(before);
                is("from " + before + " to " + p, before, s.field(p));
                is("P", p, s.count(0));
                told(0, "a=99");
                is("numbers MOD P", 99 % p, s.number(0, 0, 0, 0));
                is("a point of P - 1", 99 % p, s.value(0, p - 1, p - 1, p - 1));
                illegal("no point of P", () -> s.value(0, p, 0, 0));
            }
        }
        sentence("2 NONE (nothing changes): no such P");
        fill();
        s.say(3);
        feedText("a=q");
        for (int p = -40; p <= 300; p++) {
            int no = p;
            if (p < 2 || p > 13 || p == 4 || p == 6 || p == 8 || p == 9 || p == 10 || p == 12) {
                refused("field(" + p + ")", -1, () -> s.field(no));
            }
        }
        refused("field(least)", -1, () -> s.field(LEAST));
        refused("field(most)", -1, () -> s.field(MOST));
        refused("field(2^16 + 5)", -1, () -> s.field(65541));
    }

    private void promise2Kept() {
        for (int p : new int[] {7, 5}) {
            sentence("2 to " + p + ", all PLACES 0 then");
            fill();
            s.field(p);
            for (int place = 0; place < 6; place++) {
                is("terms", 0, s.of(place, 0));
            }
            sentence("2 to " + p + ", no PROGRAM then");
            fill();
            s.field(p);
            is("steps", 0, s.count(1));
            missing("step", () -> s.step(0, 0));
            missing("at", () -> s.at(0, false, 0, 0, 0));
            sentence("2 to " + p + ", no acts kept then");
            fill();
            s.field(p);
            is("acts", 0, s.count(3));
            refused("undo", -1, () -> s.undo());
            told(0, "a=1");
            is("only the new one", 0, s.undo());
            is("0 again", 0, s.of(0, 0));
            sentence("2 to " + p + ", what it does not name stays");
            told(0, "a=x;b=q");
            told(0, "a=x*y");
            s.say(0);
            told(0, "a=x;b=q");
            feedText("a=y;b=a+3");
            s.field(p);
            is("bytes", 20, s.count(2));
            is("fault", 6, s.fault());
            isText("said", "x*y", said());
            is("the tape's bytes", 2, s.tell(1, 9));
            isPoly(1, "y+3");
        }
    }

    private void promise3() {
        sentence("3 Twenty bytes come behind the tape");
        feedText("a=x+1;b=a*a;c=b-a;d=");
        feedText("c*x;e=d+4;f=e*y+");
        is("told", 3, s.tell(0, 35));
        isPoly(0, "x^3*y+x^2*y+4*y");
        sentence("3 of each number the highest first");
        is("feed", 20, s.feed(0x613d782b, 0x793b623d, 0x612a7a3b, 0x633d622d, 0x34202020));
        is("a=x+y;b=a*z;c=b-4", 3, s.tell(0, 20));
        isPoly(0, "x*z+y*z+1");
        sentence("3 bytes are 0 to 255");
        s.feed(0x613d7880, 0, 0, 0, 0);
        is("128 is one by itself", -11, s.tell(0, 4));
        is("its place", 3, s.fault());
        s.feed(-1, -1, -1, -1, -1);
        is("255 is no blank", -11, s.tell(0, 20));
        is("its place", 0, s.fault());
        s.feed(0x000102ff, 0x03000000, 0, 0, 0);
        is("255 is P or more", -1, s.fit(0));
        s.feed(0x00010203, 0x84000000, 0, 0, 0);
        is("132 is P or more", -1, s.fit(0));
        sentence("3 how many it has");
        for (int k = 1; k <= 10; k++) {
            is("feed", 20 * k, s.feed(LEAST, MOST, -1, 0, 1));
            is("count", 20 * k, s.count(2));
        }
        s.tell(0, 0);
        is("of an empty one again", 20, s.feed(0, 0, 0, 0, 0));
    }

    private void promise3Full() {
        sentence("3 NONE, and none come, if it would have more than 200");
        StringBuilder text = new StringBuilder("a=x+1;");
        while (text.length() < 191) {
            text.append(' ');
        }
        text.append("b=a*a;c=b");
        feedText(text.toString());
        is("full", 200, s.count(2));
        refused("feed", -1, () -> s.feed(0, 0, 0, 0, 0));
        refused("feed", -1, () -> s.feed(-1, -1, -1, -1, -1));
        illegal("not 201", () -> s.tell(0, 201));
        illegal("not 220", () -> s.tell(0, 220));
        is("all 200 bytes are as they were", 3, s.tell(0, 200));
        isPoly(0, "x^2+2*x+1");
        is("room again", 20, s.feed(0, 0, 0, 0, 0));
    }

    private void promise4Bytes() {
        sentence("4 The tape's first n bytes");
        String text = "a=x;b=a+y;c=b*b;";
        int[] due = {-11, -11, -11, 1, 1, -11, -11, 1, -11, 2, 2, -11, -11, 2, -11, 3, 3};
        for (int n = 0; n < due.length; n++) {
            feedText(text);
            is("n " + n, due[n], s.tell(0, n));
            is("fault of n " + n, due[n] < 0 ? n : -1, s.fault());
        }
        sentence("4 it is empty then, whatever comes of it");
        is("told", 1, told(0, "a=x"));
        is("bytes", 0, s.count(2));
        is("FAULT", -12, told(0, "a=100"));
        is("bytes", 0, s.count(2));
        is("TOO MUCH", -2, told(0, "a=x^9;b=a^9"));
        is("bytes", 0, s.count(2));
        feedText("a=x;b=a+y;c=b*b;d=c-1;e=d*z;f=e+x");
        is("few of many bytes", 1, s.tell(0, 3));
        is("bytes", 0, s.count(2));
        feedText("a=x");
        is("none of many bytes", -11, s.tell(0, 0));
        is("bytes", 0, s.count(2));
        sentence("4 how many TERMS");
        is("0", 0, told(5, "a=x-x"));
        is("1", 1, told(5, "a=4"));
        is("a number that is 0 MOD P", 0, told(5, "a=95"));
        is("the last STEP's", 2, told(5, "a=x+y;b=a*a;c=a-z;d=b*0;e=c+z"));
        isPoly(5, "x+y");
        sentence("4 -2, -10 less the FAULT (these change nothing else)");
        fill();
        s.say(2);
        String state = state();
        is("TOO MUCH", -2, told(2, "a=x^9;b=a^9;c=y"));
        isText("nothing else", state, state());
        is("FAULT", -13, told(2, "a=x;b=a+y;c=d"));
        isText("nothing else", state.replace("fault -1 ", "fault 12 "), state());
        is("the act ahead of these is undone", 5, s.undo());
        isPoly(5, "0");
    }

    private void promise4Illegal() {
        sentence("4 IllegalArgumentException (ahead of all, and nothing changes): no such PLACE");
        fill();
        s.say(1);
        told(0, "a=x;b=1 2");
        feedText("a=x+1");
        for (int place : NO_PLACES) {
            illegal("tell(" + place + ", 5)", () -> s.tell(place, 5));
            illegal("tell(" + place + ", 0)", () -> s.tell(place, 0));
            illegal("tell(" + place + ", 4), with a FAULT", () -> s.tell(place, 4));
            illegal("tell(" + place + ", 21)", () -> s.tell(place, 21));
        }
        is("the tape's bytes are still there", 2, s.tell(5, 5));
        isPoly(5, "x+1");
        sentence("4 IllegalArgumentException: the tape has not so many");
        for (int n : new int[] {1, 2, 20, 200, 201, MOST}) {
            illegal("of none " + n, () -> s.tell(0, n));
        }
        feedText("a=x+1");
        for (int n : new int[] {21, 22, 40, 200, 201, MOST}) {
            illegal("of twenty " + n, () -> s.tell(0, n));
        }
        is("all of them", 2, s.tell(0, 20));
        sentence("4 IllegalArgumentException: n below 0");
        illegal("of none", () -> s.tell(0, -1));
        feedText("a=x+1");
        for (int n : new int[] {-1, -2, -20, LEAST}) {
            illegal("n " + n, () -> s.tell(0, n));
        }
        is("0 is not below", -11, s.tell(0, 0));
        is("its FAULT", 0, s.fault());
    }

    /** Each byte behind the start of a text: it is whole then, only goes on, or the FAULT is 2 or 3 at the last TOKEN; or else 1 at the byte. */
    private void behind(String start, String whole, String goesOn, String second, String third) {
        for (int b = 0; b < 256; b++) {
            char ch = (char) b;
            String text = start + ch;
            boolean told = whole.indexOf(ch) >= 0;
            boolean on = goesOn.indexOf(ch) >= 0;
            boolean two = second.indexOf(ch) >= 0;
            boolean three = third.indexOf(ch) >= 0;
            int answer = told(0, text);
            is("behind " + start + " byte " + b, told ? 1 : two ? -12 : three ? -13 : -11, answer >= 0 ? 1 : answer);
            is("fault behind " + start + " byte " + b, told ? -1 : on ? text.length() : start.length() - (two ? 1 : 0), s.fault());
        }
    }

    private void promise4Tokens() {
        sentence("4 FAULT 1 it can't stand there (the end, where the text can't end: its length)");
        fresh(13);
        String atoms = "xyz" + FIGURES;
        behind("", "", NAMES + BLANKS, "", "");
        behind(" ", "", NAMES + BLANKS, "", "");
        behind("a", "", "=" + BLANKS, "", "");
        behind("a=", atoms, BLANKS, "", NAMES);
        behind("a=x", ";" + BLANKS, "+-*^", "", "");
        behind("a=x;b=a", ";" + BLANKS, "+-*^", "", "");
        behind("a=2", ";" + FIGURES + BLANKS, "+-*^", "", "");
        behind("a=x+", atoms, BLANKS, "", NAMES);
        behind("a=x-", atoms, BLANKS, "", NAMES);
        behind("a=x*", atoms, BLANKS, "", NAMES);
        behind("a=x^", FIGURES, BLANKS, "", "");
        behind("a=x+y", ";" + BLANKS, "", "", "");
        behind("a=x-y", ";" + BLANKS, "", "", "");
        behind("a=x*y", ";" + BLANKS, "", "", "");
        behind("a=x^0", ";" + FIGURES + BLANKS, "", "", "");
        behind("a=x^1", ";" + BLANKS, "", FIGURES, "");
        behind("a=x^2 ", ";" + BLANKS, "", "", "");
        behind("a=x;", BLANKS, NAMES.substring(1), "", "a");
        behind("a=x;b=y;", BLANKS, NAMES.substring(2), "", "ab");
        behind("a=x; ", BLANKS, NAMES.substring(1), "", "a");
        sentence("4 blanks (32, 10) stand where one likes");
        String text = "a=x+1;b=a^2;c=b*y;";
        for (char blank : BLANKS.toCharArray()) {
            StringBuilder wide = new StringBuilder().append(blank);
            for (int i = 0; i < text.length(); i++) {
                told(text.substring(0, i) + blank + text.substring(i), 3, -1);
                wide.append(text.charAt(i)).append(blank).append('\n').append(' ');
            }
            told(text + blank, 3, -1);
            told(wide.toString(), 3, -1);
            isPoly(0, "x^2*y+2*x*y+y");
        }
        told("  \n \n  ", -11, 7);
        sentence("4 blanks stand not in NUMBERS");
        told("a=12", 1, -1);
        told("a=1 2", -11, 4);
        told("a=1\n2", -11, 4);
        told("a=x^0 1", -11, 6);
    }

    private void promise4Numbers() {
        sentence("4 NUMBER (0 to 99), FAULT 2 a NUMBER that isn't as told");
        fresh(11);
        for (int n = 0; n < 100; n++) {
            told("a=" + n, n % 11 == 0 ? 0 : 1, -1);
            is("number", n % 11, s.number(0, 0, 0, 0));
        }
        for (String n : new String[] {"100", "101", "110", "199", "255", "256", "999", "1000", "65536", "65537", "2147483648", "4294967296",
            "4294967297", "18446744073709551616", "18446744073709551617", "0100", "9".repeat(190), "1" + "0".repeat(190)}) {
            told("a=" + n, -12, 2);
            told("a= " + n.substring(0, Math.min(n.length(), 180)) + ";;", -12, 3);
            told("a=x*" + n.substring(0, Math.min(n.length(), 180)), -12, 4);
        }
        sentence("4 NUMBER 0 to 9 behind ^");
        fresh(11);
        for (int n = 0; n < 10; n++) {
            told("a=x^" + n, 1, -1);
            is("exponent", n, s.of(0, 2));
        }
        for (String n : new String[] {"10", "11", "19", "90", "99", "100", "256", "65536", "4294967296", "4294967297", "18446744073709551616", "010",
            "9".repeat(190)}) {
            told("a=x^" + n, -12, 4);
        }
        sentence("4 it counts as what it is, 007 as 7");
        fresh(11);
        told("a=007", 1, -1);
        isPoly(0, "7");
        told("a=" + "0".repeat(190) + "98", 1, -1);
        isPoly(0, "10");
        told("a=x^" + "0".repeat(190) + "7", 1, -1);
        isPoly(0, "x^7");
        told("a=" + "0".repeat(198), 0, -1);
        sentence("4 To the 0: 1, of 0, too");
        told("a=0^0", 1, -1);
        isPoly(0, "1");
        told("a=x-x;b=a^0", 1, -1);
        isPoly(0, "1");
        told("a=x+y;b=a^0", 1, -1);
        isPoly(0, "1");
        told("a=x-x;b=a^1", 0, -1);
    }

    private void promise4Names() {
        sentence("4 FAULT 3 a NAME told already (ahead of =)");
        told("a=x;a=y", -13, 4);
        told("a=x; a", -13, 5);
        told("w=x;b=w;w=b", -13, 8);
        told("a=x;b=y;c=z;b", -13, 12);
        sentence("4 FAULT 3 a NAME not told ahead (of an ATOM)");
        told("a=a", -13, 2);
        told("a=b;b=x", -13, 2);
        told("a=x+b", -13, 4);
        told("a=x;b=a*c;c=y", -13, 8);
        told("a=x;b=a-b", -13, 8);
        told("a=x;w=a;b=w", 1, -1);
        sentence("4 NAME: one of a .. w");
        for (char name : NAMES.toCharArray()) {
            told(name + "=x;" + (name == 'a' ? 'b' : 'a') + "=" + name + "+1", 2, -1);
            is("its number", name - 'a' + 1, s.step(0, 3));
        }
        for (String no : new String[] {"x", "y", "z", "A", "W", "`", "{", "1", "_"}) {
            told(no + "=1", -11, 0);
            told("a=1;" + no + "=1", -11, 4);
        }
        sentence("4 names of a text that is not at hand are not told ahead");
        told("a=x;b=y", 1, -1);
        told("c=a", -13, 2);
        told("a=x;b=y;a=1", -13, 8);
        told("a=y", 1, -1);
    }

    private void promise4FirstFault() {
        sentence("4 at the first TOKEN at which one of these is so");
        told("a=100;b=q", -12, 2);
        told("a=q;b=100", -13, 2);
        told("a=x+;b=100", -11, 4);
        told("a=x;a=100", -13, 4);
        told("a=x;b=100;b=;", -12, 6);
        told("q q 100", -11, 2);
        sentence("4 it is that (the first one of this list)");
        told("100", -11, 0);
        told("a 100", -11, 2);
        told("a=x 100", -11, 4);
        told("a=x+y 100", -11, 6);
        told("a=x;100", -11, 4);
        told("a=1 a", -11, 4);
        told("a=x^q", -11, 4);
        told("a=x^a", -11, 4);
        told("a=x q", -11, 4);
        told("a=x;b a", -11, 6);
        sentence("4 its place the TOKEN's first byte");
        told("a=   123456", -12, 5);
        told("a=x^\n 0012;", -12, 6);
        told("a=x\n;\n\na=y", -13, 7);
        told("a= x +   q", -13, 9);
        told("a=x  )", -11, 5);
        sentence("4 a FAULT is told of a text, whatever a STEP makes");
        told("a=x^9;b=a^9;c=d", -13, 14);
        told("a=x^9;b=a^9;c=", -11, 14);
    }

    /** The first is x, each other one stands on the one ahead of it, by turns in two ways. */
    private static String steps23(String second, String third) {
        StringBuilder text = new StringBuilder("a=x;");
        for (char name = 'b'; name <= 'w'; name++) {
            text.append(name).append('=').append((char) (name - 1)).append(name % 2 == 0 ? second : third);
        }
        return text.toString();
    }

    private void promise4Steps() {
        sentence("4 NAME told once: 23 STEPS at most");
        String text = steps23("+1;", "+1;");
        told(text, 2, -1);
        is("steps", 23, s.count(1));
        isPoly(0, "x+2");
        missing("no STEP 23", () -> s.step(23, 0));
        for (char name : NAMES.toCharArray()) {
            told(text + name, -13, text.length());
        }
        told(text + "x=1", -11, text.length());
        is("at hand still", 23, s.count(1));
        sentence("4 (STEP ';')* STEP {';'}?");
        told("a=1", 1, -1);
        told("a=1;", 1, -1);
        told("a=1; \n", 1, -1);
        told("a=1;;", -11, 4);
        told(";", -11, 0);
        told(";a=1", -11, 0);
        told("a=1;b=2", 1, -1);
        told("a=1;b=2;", 1, -1);
        told("a=1;b=2;;", -11, 8);
        told("a=1 b=2", -11, 4);
        sentence("4 A PROGRAM is a TEXT of at most 200 bytes");
        String long200 = text + " ".repeat(200 - text.length());
        told(long200, 2, -1);
        told(long200.substring(0, 199) + "?", -11, 199);
        told("a=" + " ".repeat(198), -11, 200);
        told(" ".repeat(200), -11, 200);
    }

    private void promise4Exponents() {
        sentence("4 -2: TOO MUCH, an EXPONENT above 40");
        for (char v : "xyz".toCharArray()) {
            int place = v - 'x';
            told("a=" + v + "^8;b=a^5", 1, -1);
            is("40", 40, s.of(0, 2 + place));
            told("a=" + v + "^8;b=a^5;c=b*3", 1, -1);
            told("a=" + v + "^8;b=a^5;c=b*" + v, -2, -1);
            told("a=" + v + "^8;b=a^5;c=" + v + "*b", -2, -1);
            told("a=" + v + "+1;b=" + v + "^8;c=b^5;d=c*a", -2, -1);
            told("a=" + v + "^9;b=a^4;c=" + v + "^4;d=b*c", 1, -1);
            told("a=" + v + "^9;b=a^4;c=" + v + "^5;d=b*c", -2, -1);
            told("a=" + v + "^7;b=a^5", 1, -1);
            told("a=" + v + "^7;b=a^6", -2, -1);
            told("a=" + v + "^4;b=" + v + "+a;c=b^9;d=c*a", 10, -1);
            told("a=" + v + "^5;b=" + v + "+a;c=b^9", -2, -1);
        }
        sentence("4 EXPONENTS are counted each by itself");
        told(ALL_40, 1, -1);
        is("degree", 120, s.of(0, 1));
        told(ALL_40 + ";i=h*2;j=i+1;k=j-h", 2, -1);
        isPoly(0, "x^40*y^40*z^40+1");
        sentence("4 0 is never TOO MUCH");
        told("a=x^8;b=a^5;c=b-b;d=c*b;e=d^9", 0, -1);
        sentence("4 no STEP is TOO MUCH, one that nothing stands on either");
        told("a=x^9;b=a^5;c=1", -2, -1);
        told("a=x^9;b=a^5;c=b-b", -2, -1);
        told("a=x^9;b=a^5;c=b*0", -2, -1);
    }

    private void promise4Terms() {
        sentence("4 -2: TOO MUCH, more than 300 TERMS, of *");
        fresh(13);
        told(TERMS_300, 300, -1);
        is("terms", 300, s.of(0, 0));
        told(TERMS_43, 43, -1);
        told(TERMS_43 + ";j=i-h;k=j*b", 294, -1);
        told(TERMS_43 + ";j=i*b", -2, -1);
        told(TERMS_43 + ";j=b*i", -2, -1);
        sentence("4 -2: TOO MUCH, more than 300 TERMS, of +");
        fresh(13);
        told(TERMS_300 + ";i=b*x;j=h+1", 300, -1);
        told(TERMS_300 + ";i=x^9;j=h+i", 300, -1);
        told(TERMS_300 + ";i=x^9;j=i*x;k=h+j", -2, -1);
        told(TERMS_300 + ";i=x^9;j=i*x;k=j+h", -2, -1);
        told(TERMS_300 + ";i=z^5;j=h+i", -2, -1);
        told(TERMS_300 + ";i=z^5;j=i+h", -2, -1);
        sentence("4 -2: TOO MUCH, more than 300 TERMS, of -");
        fresh(13);
        told(TERMS_300 + ";i=h-1", 299, -1);
        told(TERMS_300 + ";i=h-1;j=z^5;k=i-j", 300, -1);
        told(TERMS_300 + ";i=h-1;j=z^5;k=j-i", 300, -1);
        told(TERMS_300 + ";i=z^5;j=h-i", -2, -1);
        told(TERMS_300 + ";i=z^5;j=i-h", -2, -1);
        told(TERMS_300 + ";i=h-h", 0, -1);
        sentence("4 -2: TOO MUCH, more than 300 TERMS, of ^");
        told(SQUARE_300 + ";i=h^2", 300, -1);
        told(SQUARE_301 + ";g=f^1", 61, -1);
        told(SQUARE_301 + ";g=e^2", 240, -1);
        told(SQUARE_301 + ";g=f^2", -2, -1);
    }

    private void promise4Powers() {
        sentence("4 of ^ each POWER 1, 2, .. on the way, too");
        fresh(2);
        told(THIRD_IS_MANY, 25, -1);
        told(THIRD_IS_MANY + ";o=n^0", 1, -1);
        told(THIRD_IS_MANY + ";o=n^1", 25, -1);
        told(THIRD_IS_MANY + ";o=n^2", 25, -1);
        told(THIRD_IS_MANY + ";o=n^3", -2, -1);
        told(THIRD_IS_MANY + ";o=n^4", -2, -1);
        told(THIRD_IS_MANY + ";o=n^2;p=o^2", 25, -1);
        told(THIRD_IS_MANY + ";o=n^2;p=o*n", -2, -1);
        sentence("4 POWER 2 on the way");
        fresh(3);
        told(SECOND_IS_MANY, 85, -1);
        told("a=x^3;b=a+1;c=b^8;d=y^3;e=d+1;f=e^8;g=c*f;h=z^3;i=h+1;j=i^4;k=g*a;l=j*h;m=k+l", 85, -1);
        told(SECOND_IS_MANY + ";k=j*j", -2, -1);
        told(SECOND_IS_MANY + ";k=j^2", -2, -1);
        told(SECOND_IS_MANY + ";k=j^3", -2, -1);
        told(SECOND_IS_MANY + ";k=j^1", 85, -1);
    }

    private void promise4AtHand() {
        sentence("4 at hand then: the latest one that was told without a FAULT and of which no STEP is TOO MUCH");
        is("none at first", 0, s.count(1));
        told("a=", -11, 2);
        is("none with a FAULT", 0, s.count(1));
        told("a=x^9;b=a^9", -2, -1);
        is("none that is TOO MUCH", 0, s.count(1));
        told("c=x;d=c+1", 2, -1);
        is("two", 2, s.count(1));
        told("a=x;b=y;e=z;f=", -11, 14);
        told("a=x;b=y;e=z;f=x^9;g=f^9", -2, -1);
        is("two still", 2, s.count(1));
        is("its NAME", 3, s.step(0, 3));
        is("its VALUE", 3, s.at(1, false, 2, 0, 0));
        told("g=7", 1, -1);
        is("one", 1, s.count(1));
        is("its NAME", 7, s.step(0, 3));
    }

    private void promise5() {
        sentence("5 NONE: there was none");
        is("fault", -1, s.fault());
        illegal("tell", () -> s.tell(6, 0));
        is("fault", -1, s.fault());
        sentence("5 The place of the latest tell()'s FAULT");
        told(0, "a=x;b=q");
        is("fault", 6, s.fault());
        told(0, "a=q");
        is("the latest", 2, s.fault());
        s.tell(0, 0);
        is("place 0 is one, too", 0, s.fault());
        sentence("5 NONE: it had none");
        told(0, "a=q");
        told(0, "a=x");
        is("told", -1, s.fault());
        told(0, "a=q");
        told(0, "a=x^9;b=a^9");
        is("TOO MUCH is no FAULT", -1, s.fault());
        sentence("5 (that was no IllegalArgumentException)");
        told(0, "a=q");
        feedText("a=x");
        illegal("no place", () -> s.tell(6, 3));
        illegal("too many", () -> s.tell(0, 21));
        illegal("below 0", () -> s.tell(0, -1));
        is("fault", 2, s.fault());
        s.tell(0, 3);
        illegal("no place", () -> s.tell(-1, 0));
        is("fault", -1, s.fault());
        sentence("5 other calls leave it");
        told(1, "a=x");
        told(0, "a=q");
        s.make(2, 0, 1, 1);
        s.put(2, 1, 0, 1);
        s.feed(0, 0, 0, 0, 0);
        s.fit(3);
        s.feed(-1, 0, 0, 0, 0);
        s.fit(3);
        s.undo();
        s.field(3);
        is("fault", 2, s.fault());
    }

    private void promise6() {
        sentence("6 STEPS of the PROGRAM at hand (0 without)");
        is("without", 0, s.count(1));
        told(0, "a=1;b=2;c=3");
        is("three", 3, s.count(1));
        s.field(5);
        is("without again", 0, s.count(1));
        sentence("6 bytes of the tape");
        is("none", 0, s.count(2));
        feedText("x".repeat(200));
        is("full", 200, s.count(2));
        sentence("6 acts that are kept");
        for (int k = 0; k <= 25; k++) {
            is("acts", Math.min(k, 20), s.count(3));
            s.make(0, 0, 0, 0);
        }
        s.undo();
        is("one less", 19, s.count(3));
        sentence("6 NoSuchElementException: another what");
        for (int what : new int[] {-1, 4, 5, -2, LEAST, MOST}) {
            missing("count(" + what + ")", () -> s.count(what));
        }
    }

    private void isSteps(int what, int... want) {
        for (int step = 0; step < want.length; step++) {
            is("step " + step, want[step], s.step(step, what));
        }
    }

    private void promise7() {
        sentence("7 DEGREE of what it makes (NONE)");
        told(0, "a=0;b=x-x;c=95;d=3;e=x*y;f=e-e;g=f^0;h=e^9");
        isSteps(1, -1, -1, -1, 0, 2, -1, 0, 18);
        sentence("7 TERMS of that");
        told(0, "a=0;b=x-x;c=95;d=3;e=x*y;f=e+1;g=f^4;h=f^5");
        isSteps(2, 0, 0, 0, 1, 1, 2, 5, 2);
        fresh(13);
        told(0, TERMS_300);
        isSteps(2, 2, 10, 2, 6, 2, 5, 60, 300);
        sentence("7 its NAME (1 to 23)");
        told(0, "w=1;a=w;m=a");
        isSteps(3, 23, 1, 13);
        sentence("7 whether the last STEP stands on it (itself, too)");
        told(0, "a=x");
        isSteps(4, 1);
        told(0, "a=x;b=a+1;c=b*0;d=a^0;e=c-y;f=d");
        isSteps(4, 1, 0, 0, 1, 0, 1);
        told(0, "a=x;b=y;c=z;d=b+3;e=4*d;f=e-e");
        isSteps(4, 0, 1, 0, 1, 1, 1);
        told(0, "a=x;b=a;c=b;d=c;e=5");
        isSteps(4, 0, 0, 0, 0, 1);
        told(0, "a=x;b=y;c=a*b;d=9");
        told(0, "a=x;b=y;c=3-a;d=c");
        isSteps(4, 1, 0, 1, 1);
        sentence("7 the first STEP that makes the same POLYNOMIAL");
        told(0, "a=x*y;b=y*x;c=x-x;d=a-b;e=0;f=5;g=x;h=x^5;i=a;j=x+c;k=b+d");
        isSteps(5, 0, 0, 2, 2, 2, 2, 6, 7, 0, 6, 0);
        told(0, "a=x+1;b=x+2;c=y+1;d=x+1");
        isSteps(5, 0, 1, 2, 0);
        sentence("7 how many STEPS have it as an ATOM (one that has it twice once)");
        told(0, "a=x;b=a*a;c=a+1;d=2-a;e=a^3;f=a;g=b*c;h=c+b");
        isSteps(6, 5, 2, 2, 0, 0, 0, 0, 0);
        told(0, "a=x;b=a+a;c=b-b;d=c^2");
        isSteps(6, 1, 1, 1, 0);
        told(0, "a=x;b=y;c=x^1;d=x^0;e=y*3");
        isSteps(6, 0, 0, 0, 0, 0);
    }

    private void promise7Bound() {
        sentence("7 BOUND: a NUMBER 0, a VARIABLE 1, a NAME its BOUND");
        told(0, "a=99;b=x;c=y;d=z;e=b*c;f=e;g=a*a;h=a+7");
        isSteps(0, 0, 1, 1, 1, 2, 2, 0, 0);
        sentence("7 BOUND: + and - the greater one, * both together, ^ n times it");
        told(0, "a=x*y;b=a+z;c=z+a;d=z-a;e=a-z;f=a*b;g=f*3;h=f^9;i=f^0;j=f^1;k=x^0;l=x^9;m=7^9");
        isSteps(0, 2, 2, 2, 2, 2, 4, 4, 36, 0, 4, 0, 9, 0);
        sentence("7 BOUND as far as its signs tell");
        told(0, "a=x-x;b=a*x;c=0*x;d=c^9;e=x^5;f=e*0");
        isSteps(0, 1, 2, 1, 9, 5, 5);
        isSteps(1, -1, -1, -1, -1, 5, -1);
        sentence("7 BOUND: 999999 at most each time");
        // 127 is 9 * 7 * 2 + 1; 999998 is 127 * 127 * 31 * 2.
        told(0, "a=x-x;b=a^9;c=b^7;d=c^2;e=d*a;f=e^9;g=f^7;h=g^2;i=h*e;j=i^9;k=j^3;l=i^4;m=k*l;n=m^2;o=n*a;p=o*a;q=n*b;r=o^2;s=n+p;t=n-a;u=p^0;v=p^9;w=p*p");
        isSteps(0, 1, 9, 63, 126, 127, 1143, 8001, 16002, 16129, 145161, 435483, 64516, 499999, 999998,
                999999, 999999, 999999, 999999, 999999, 999998, 0, 999999, 999999);
        told(0, "a=x-x;b=a^9;c=b^9;d=c^9;e=d^9;f=e^9;g=f^9;h=g^9;i=h^9;j=h-h;k=h^1;l=h*1");
        isSteps(0, 1, 9, 81, 729, 6561, 59049, 531441, 999999, 999999, 999999, 999999, 999999);
    }

    private void promise7Missing() {
        sentence("7 NoSuchElementException: no such STEP");
        missing("without a PROGRAM", () -> s.step(0, 0));
        missing("without a PROGRAM", () -> s.step(-1, 0));
        told(0, "a=x;b=y;c=z");
        for (int step : new int[] {-1, 3, 4, 22, 23, 24, LEAST, MOST}) {
            for (int what = 0; what < 7; what++) {
                int w = what;
                missing("step " + step + " what " + what, () -> s.step(step, w));
            }
        }
        told(0, "a=x");
        missing("one of the PROGRAM ahead of it", () -> s.step(1, 0));
        sentence("7 NoSuchElementException: another what");
        told(0, "a=x;b=y");
        for (int what : new int[] {-1, 7, 8, LEAST, MOST}) {
            missing("what " + what, () -> s.step(0, what));
            missing("what " + what, () -> s.step(1, what));
        }
    }

    private void promise8() {
        sentence("8 NoSuchElementException: no such STEP");
        missing("without a PROGRAM", () -> s.at(0, false, 0, 0, 0));
        missing("without a PROGRAM", () -> s.at(0, true, 0, 0, 0));
        told(0, "a=x;b=y");
        for (int step : new int[] {-1, 2, 22, 23, LEAST, MOST}) {
            missing("step " + step, () -> s.at(step, false, 0, 0, 0));
            missing("step " + step, () -> s.at(step, true, 0, 0, 0));
        }
        sentence("8 IllegalArgumentException: no such point");
        for (int p : SIZES) {
            fresh(p);
            told(0, "a=x+y;b=a+z");
            due("least point", 0, () -> s.at(1, false, 0, 0, 0));
            due("greatest point", 3 * (p - 1) % p, () -> s.at(1, false, p - 1, p - 1, p - 1));
            for (int no : new int[] {-1, p, p + 1, LEAST, MOST}) {
                for (int k = 0; k < 2; k++) {
                    boolean back = k == 1;
                    illegal("x " + no, () -> s.at(0, back, no, 0, 0));
                    illegal("y " + no, () -> s.at(0, back, 0, no, 0));
                    illegal("z " + no, () -> s.at(0, back, 0, 0, no));
                }
            }
        }
        sentence("8 each of 23 STEPS");
        told(0, steps23("*2;", "+1;"));
        int value = 3;
        for (int step = 0; step < 23; step++) {
            is("VALUE of " + step, value, s.at(step, false, 3, 0, 0));
            value = step % 2 == 0 ? value * 2 % 5 : (value + 1) % 5;
        }
        for (int step = 22; step >= 0; step--) {
            int doublings = 11 - (step + 1) / 2;
            is("TURN of " + step, (1 << doublings) % 5, s.at(step, true, 3, 0, 0));
        }
        sentence("8 (behind that)");
        missing("without a PROGRAM", () -> s.at(0, false, 5, 0, 0));
        told(0, "a=x");
        missing("no STEP and no point", () -> s.at(1, false, 5, 5, 5));
        missing("no STEP and no point", () -> s.at(-1, true, -1, 0, 0));
        sentence("8 VALUE: what it comes to, MOD P");
        told(0, "a=99;b=0-x;c=x^9;d=x^0;e=a*c;f=y-z");
        int[] values = {4, 1, 4, 1, 1, 1};
        for (int step = 0; step < 6; step++) {
            is("step " + step, values[step], s.at(step, false, 4, 0, 4));
        }
        is("0 to the 0", 1, s.at(3, false, 0, 0, 0));
        is("0 to the 9", 0, s.at(2, false, 0, 0, 0));
    }

    private void isTurns(int x, int y, int z, int... want) {
        for (int step = 0; step < want.length; step++) {
            is("step " + step, want[step], s.at(step, true, x, y, z));
        }
    }

    private void promise8Turn() {
        sentence("8 TURN (of the last one 1)");
        told(0, "a=0");
        isTurns(0, 0, 0, 1);
        told(0, "a=x;b=x");
        isTurns(2, 0, 0, 0, 1);
        sentence("8 TURN of one that the last one does not stand on");
        told(0, "a=x;b=a*a;c=b+a;d=y");
        isTurns(1, 1, 1, 0, 0, 0, 1);
        sentence("8 TURN going back by + - * ^ and alone");
        told(0, "a=x;b=a+y");
        isTurns(2, 3, 4, 1, 1);
        told(0, "a=x;b=y+a");
        isTurns(2, 3, 4, 1, 1);
        told(0, "a=x;b=a-y");
        isTurns(2, 3, 4, 1, 1);
        told(0, "a=x;b=y-a");
        isTurns(2, 3, 4, 4, 1);
        told(0, "a=x;b=a-a");
        isTurns(2, 3, 4, 0, 1);
        told(0, "a=x;b=a+a");
        isTurns(2, 3, 4, 2, 1);
        told(0, "a=x;b=a*y");
        isTurns(2, 3, 4, 3, 1);
        told(0, "a=x;b=z*a");
        isTurns(2, 3, 4, 4, 1);
        told(0, "a=x;b=a*a");
        isTurns(2, 3, 4, 4, 1);
        told(0, "a=x;b=a*7");
        isTurns(2, 3, 4, 2, 1);
        told(0, "a=x;b=a");
        isTurns(2, 3, 4, 1, 1);
        sentence("8 TURN of ^: of 0, 1, P and more");
        told(0, "a=x;b=a^0");
        isTurns(2, 0, 0, 0, 1);
        isTurns(0, 0, 0, 0, 1);
        told(0, "a=x;b=a^1");
        isTurns(2, 0, 0, 1, 1);
        isTurns(0, 0, 0, 1, 1);
        told(0, "a=x;b=a^2");
        isTurns(0, 0, 0, 0, 1);
        isTurns(3, 0, 0, 1, 1);
        told(0, "a=x;b=a^5");
        isTurns(3, 0, 0, 0, 1);
        told(0, "a=x;b=a^6");
        isTurns(3, 0, 0, 3, 1);
        told(0, "a=x;b=a^9");
        // 9 * 3^8 is 4 * 1.
        isTurns(3, 0, 0, 4, 1);
        sentence("8 TURN: the STEPS behind it asked only as they stand");
        // b and c both stand on a, d on b and c; a's way goes through both.
        told(0, "a=x+1;b=a*a;c=a*y;d=b*c;e=d-b");
        // At 2, 3, 0: a 3, b 4, c 4, d 1; of c 4, of b 4 - 1, of a 3 * 6 + 4 * 3.
        isTurns(2, 3, 0, 0, 3, 4, 1, 1);
    }
}
