import java.lang.management.ManagementFactory;

/** All rows are made in the constructor, and no call makes more. */
public final class RoomTest {
    private static final com.sun.management.ThreadMXBean THREADS =
            (com.sun.management.ThreadMXBean) ManagementFactory.getThreadMXBean();
    private static final String[] TEXTS = {"44Ea=1|d<3&d<2?(1<b?1-b:b):(b<2?1-b:b)", "33T201120200120012012012201102",
        "43S0123012301", "23Eb?c:a", "22Ea=b=a"};

    public static void main(String[] args) {
        made(new LineRules());
        long start = bytes();
        LineRules x = new LineRules();
        long room = bytes() - start;
        Check.isTrue("an object has " + room + " bytes", room < 60000);
        long calls = made(x);
        Check.isTrue("its calls make " + calls + " bytes", calls < 1000);
        Check.end();
    }

    private static long bytes() {
        return THREADS.getThreadAllocatedBytes(Thread.currentThread().getId());
    }

    private static long made(LineRules x) {
        long start = bytes();
        for (String text : TEXTS) {
            for (int i = 0; i < text.length(); i++) {
                x.load(text.charAt(i));
            }
            x.rule();
            x.ring(64);
            x.set(1, 1);
            x.step(200);
            x.inverse(0);
            x.undo(5);
            x.conserved();
            x.orphan();
            x.orphanAt(0);
            x.before();
            x.ways();
        }
        return bytes() - start;
    }
}
