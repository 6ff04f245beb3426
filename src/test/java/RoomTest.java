import java.lang.management.ManagementFactory;

/**
 * What a run makes lives in one room: the calls that look at most make nothing, those that put something down make a
 * few small objects, and a new object is small.
 */
public final class RoomTest {
  private static final int CALLS = 512;
  // 7.3 million fields and elements are the room; an element has 8 bytes at most.
  private static final long NEW_OBJECT = 400000;
  private static final long SMALL = 200 * CALLS;
  private static final com.sun.management.ThreadMXBean THREADS = (com.sun.management.ThreadMXBean) ManagementFactory.getThreadMXBean();

  private static long made() {
    return THREADS.getCurrentThreadAllocatedBytes();
  }

  public static void main(String[] args) {
    Due due = new Due();
    due.part("room");
    made();
    long before = made();
    VeiledTable x = new VeiledTable();
    due.isSo("a new object is small", made() - before < NEW_OBJECT);
    x.pack(5);
    x.stage(0, 0, 0);
    x.stage(2, 0, 2);
    for (int n = 0; n < 2; n++) x.stage(7, 1, 3);
    x.stage(0, 1, 0);
    x.stage(6, 0, 3);
    for (int n = 0; n < 8; n++) x.rule(n == 0 ? 2 : 4, Math.max(0, n - 1), 4, 0, 1, n == 0 ? 2 : 3, 5);
    due.is("ways(6)", x.ways(6), 1080);
    before = made();
    long sum = 0;
    for (int n = 0; n < CALLS / 8; n++) sum += dearCalls(x, n);
    long made = made() - before;
    due.isSo("what looks makes next to nothing: " + made, made < SMALL);
    due.isSo("and answers", sum != 0);
    before = made();
    for (int n = 0; n < CALLS / 4; n++) {
      x.unrule();
      x.rule(4, 6, 0, 0, 1, 3, n % 99);
      x.drop();
      x.stage(6, 0, 3);
    }
    made = made() - before;
    due.isSo("what puts down makes little: " + made, made < SMALL);
    due.end("RoomTest");
  }

  private static long dearCalls(VeiledTable x, int n) {
    return x.reply(0, 0) + x.better(0) + x.settled() + x.recalls(0) + x.lot(n) + x.mean(1, 0) + x.image() + x.odds(1, 6, n, 2, 1, 0);
  }
}
