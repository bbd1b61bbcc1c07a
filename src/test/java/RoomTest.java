import java.lang.management.ManagementFactory;

/**
 * All calls of one run live in one room of some 7.3 million elements (rule 12): what an object is made of and what its
 * calls make stays far below; the dearest calls end in good time.
 */
public final class RoomTest {
    private static final com.sun.management.ThreadMXBean THREADS =
            (com.sun.management.ThreadMXBean) ManagementFactory.getThreadMXBean();

    private static long made() {
        return THREADS.getThreadAllocatedBytes(Thread.currentThread().getId());
    }

    public static void main(String[] args) {
        Due due = new Due();
        for (int turn = 0; turn < 2; turn++) {
            long before = made();
            ThreeToSend x = new ThreeToSend();
            long object = made() - before;
            long start = System.nanoTime();
            long calls = dearest(x);
            long seconds = (System.nanoTime() - start) / 1000000000L;
            System.out.println("an object: " + object + " bytes, its calls: " + calls + " bytes, " + seconds + " s");
            if (turn > 0) {
                due.is("an object and all its calls fit in the room", object + calls < 7300000L * 4, true);
                due.is("calls end in good time", seconds < 60, true);
            }
        }
        due.close("RoomTest");
    }

    /** 512 calls that reckon all anew each time; answers what they made. */
    private static long dearest(ThreeToSend x) {
        x.match(5, 3, 2);
        x.player(0, 5, 1, 2, 1);
        x.player(1, 1, 5, 2, 1);
        for (int i = 2; i < 5; i++) {
            x.player(i, 2 + i, 3 + i, 2, 1);
            x.pair(0, i, i);
        }
        String never = "(1=0|2=0|3=0|4=0|5=0|6=0)";
        Due.law(x, "h1" + never + ";g1" + never + ";a1" + never + ";h2+k(1=1);g9+b+l+x*q-o-t+3*y(1=1);a9-f-m+u+e+j(1=1);h2"
                + never + ";h1" + never);
        for (int k = 0; k < 3; k++) {
            Due.other(x, k, "o" + k + "+t" + never + ";o1+t+s(1=1)");
            Due.rule(x, k, "c23" + never + ";c6(t=" + k + ");c3(t>2);c1(s<0)");
        }
        Due.rule(x, 3, "c45(t=1)");
        long made = 0;
        for (int call = 60; call < 512; call += 5) {
            long before = made();
            x.worth(call, 1, 0);
            x.slower(call % 3);
            x.kept(call % 3);
            x.game(call % 4);
            x.draw(call % 4, 0);
            made += made() - before;
        }
        return made;
    }
}
