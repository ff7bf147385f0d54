import java.lang.management.ManagementFactory;

/** All runs live in one room: a new object is small, and no call makes anything at all. */
public final class RoomTest {
  private static final int ROUNDS = 2000;
  private static final Checks checks = new Checks();
  private static long sum = 0;

  private static long made() {
    com.sun.management.ThreadMXBean threads = (com.sun.management.ThreadMXBean) ManagementFactory.getThreadMXBean();
    return threads.getThreadAllocatedBytes(Thread.currentThread().getId());
  }

  public static void main(String[] args) {
    PourPlan x = new PourPlan();
    x.point(100, 1000);
    for (int i = 0; i < 5; i++) x.piece(0, i, 50, 0, 5);
    allCalls(x);
    long before = made();
    for (int i = 0; i < ROUNDS; i++) allCalls(x);
    long byCalls = made() - before;
    before = made();
    for (int i = 0; i < ROUNDS; i++) sum += new PourPlan().count(4);
    long byNew = made() - before;
    checks.begin("room");
    // Some bytes are the measure's own.
    checks.due("calls made " + byCalls + " bytes, few", byCalls < 20_000 ? 1 : 0, 1);
    checks.due("a new one makes " + byNew / ROUNDS + " bytes, at most 4000", byNew / ROUNDS <= 4000 ? 1 : 0, 1);
    System.out.println("sum " + sum);
    checks.end();
  }

  private static void allCalls(PourPlan x) {
    sum += x.piece(0, 0, 0, 0, 1) + x.ahead(0, 1, 2) + x.form(0, 10) + x.gang(100) + x.level(0, 500) + x.warm(0, 20);
    sum += x.base(0) + x.point(1, 1) + x.table(50) + x.plan() + x.order(1, 2) + x.best() + x.better() + x.now(0);
    sum += x.plan() + x.bound() + x.about(1, 6) + x.hard(1, 9) + x.why(1, 9) + x.free(0, 9) + x.poured(0);
    sum += x.borne(1, 9, 0) + x.count(6);
  }
}
