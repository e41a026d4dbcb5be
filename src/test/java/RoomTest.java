import java.lang.management.ManagementFactory;

/** What calls make: a run of 512 calls keeps far inside the room of all calls of one run. */
public final class RoomTest {
  private static final com.sun.management.ThreadMXBean THREADS =
      (com.sun.management.ThreadMXBean) ManagementFactory.getThreadMXBean();

  private RoomTest() {
  }

  public static void main(String[] args) {
    long before = made();
    RockHeat x = full();
    long full = made() - before;
    Due.due("a full object takes " + full, full < 200000 ? 1 : 0, 1);
    before = made();
    for (int i = 0; i < 60; i++) {
      x.hours(30);
      x.ahead(500, i, i % 3);
      x.takenFrom(i % 8, (i + 1) % 8, 500);
      x.best(i % 25);
      x.may(i % 8, i % 2);
      x.leak(0);
      x.told(i % 11);
      x.need(i);
    }
    x.few(100, 0);
    long asked = made() - before;
    Due.due("480 calls make " + asked, asked < 200000 ? 1 : 0, 1);
    Due.end("RoomTest");
  }

  private static long made() {
    return THREADS.getThreadAllocatedBytes(Thread.currentThread().getId());
  }

  private static RockHeat full() {
    RockHeat x = new RockHeat();
    for (int i = 0; i < 8; i++) {
      x.bore(4000 + i, 8, 9999, 999, 60);
      x.soil(i, 500, 10);
    }
    for (int i = 0; i < 20; i++) {
      x.house(500, 10, 16777215);
      x.join(i, 0);
      x.reading(i % 8, 0);
    }
    for (int i = 0; i < 8; i++) {
      x.point(i, 200);
    }
    for (int i = 0; i < 30; i++) {
      Due.tell(x, "1+2+3+4+5+6+7+8+9+(h+(d+(p+(c+(n+t)))))*99999", i % 2, 0);
    }
    x.sun(5, 99999);
    x.share(300);
    x.tank(9, 50);
    return x;
  }
}
