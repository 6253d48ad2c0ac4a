import java.lang.management.ManagementFactory;

/** The dearest runs of 512 calls stay far below the room of a run: some 7.3 million fields and elements, most of four bytes. */
public final class RoomTest {
    private static final Checks CHECKS = new Checks("RoomTest");
    private static final long MOST_BYTES = 8_000_000;
    private static final String DENSE = "a=x+y;b=z+1;c=a+b;d=c^9;e=d*c";
    private static final String POWERS = "a=x^9;b=x^4;c=a*b;d=y^9;e=y^4;f=d*e;g=z^9;h=z^4;i=g*h;j=c+f;k=i+1;l=j+k;m=l^3";

    private interface Run {
        void go(StraightPolys s, int k);
    }

    public static void main(String[] args) {
        room("sums", (s, k) -> s.make(1, k % 2, 0, 0));
        room("powers", (s, k) -> s.make(1, 4, 2, 9));
        room("products", (s, k) -> s.make(1, 2, 2, 0));
        room("derivatives", (s, k) -> s.make(1, 3, 0, k % 3));
        room("turns", (s, k) -> s.make(1, 9, 3, k % 6));
        room("puts", (s, k) -> s.put(1, k % 2 == 0 ? 3 : 4, k % 3, k % 5));
        room("factors", (s, k) -> s.of(k % 2 == 0 ? 3 : 4, 6));
        room("rests", (s, k) -> s.make(1, 7, k % 2 == 0 ? 3 : 0, 0));
        room("often", (s, k) -> s.often(3, 1, 1, 1, 1));
        room("says", (s, k) -> s.say(0));
        room("points", (s, k) -> s.witness(0, 3));
        room("tells", (s, k) -> tell(s, 0, k % 2 == 0 ? DENSE : POWERS));
        CHECKS.finish();
    }

    private static void room(String what, Run run) {
        com.sun.management.ThreadMXBean threads = (com.sun.management.ThreadMXBean) ManagementFactory.getThreadMXBean();
        long id = Thread.currentThread().getId();
        long from = threads.getThreadAllocatedBytes(id);
        long start = System.nanoTime();
        StraightPolys s = new StraightPolys();
        s.field(13);
        tell(s, 0, DENSE);
        tell(s, 2, "a=x+y;b=z+1;c=a+b");
        tell(s, 3, POWERS);
        tell(s, 4, "a=x^9;b=a^4;c=y^9;d=c^4;e=z^9;f=e^4;g=b*d;h=g*f;i=h+x;j=i-y");
        for (int k = 0; k < 490; k++) {
            run.go(s, k);
        }
        long bytes = threads.getThreadAllocatedBytes(id) - from;
        System.out.println(what + ": " + bytes + " bytes, " + (System.nanoTime() - start) / 1000000 + " ms");
        CHECKS.dueText(what + ": fits", "true", Boolean.toString(bytes < MOST_BYTES));
    }

    private static void tell(StraightPolys s, int place, String text) {
        for (int[] w : Desk.words(text)) {
            s.feed(w[0], w[1], w[2], w[3], w[4]);
        }
        s.tell(place, text.length());
    }
}
