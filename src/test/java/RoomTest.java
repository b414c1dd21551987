import java.lang.management.ManagementFactory;
import java.lang.reflect.Method;

/** All calls of a run live in one room: only a new object takes of it, no call does. */
final class RoomTest {
  /** A new object has some 8,000 fields and elements; none takes more than 8 bytes. */
  private static final long MOST_BYTES_OF_AN_OBJECT = 64 * 1024;
  /** What asking for the number of bytes takes may be told with them. */
  private static final long MOST_BYTES_OF_CALLS = 2048;

  public static void main(String[] args) throws ReflectiveOperationException {
    // What is made once for the whole machine, as texts of constants are, is made by the first runs.
    for (int i = 0; i < 3; i++) {
      dearCalls(filled());
    }
    taken();
    long before = taken();
    ElderChest x = new ElderChest();
    Due.due("bytes of a new object", taken() - before < MOST_BYTES_OF_AN_OBJECT);
    fill(x);
    before = taken();
    dearCalls(x);
    Due.due("bytes of the dearest calls", taken() - before < MOST_BYTES_OF_CALLS);
    Due.due("it was asked", x.look(0), 10);
    Due.end("RoomTest");
  }

  /** Bytes that this thread took so far; 0 on a machine that doesn't tell. */
  private static long taken() throws ReflectiveOperationException {
    try {
      Method method = Class.forName("com.sun.management.ThreadMXBean")
          .getMethod("getThreadAllocatedBytes", long.class);
      long self = Thread.currentThread().getId();
      return (Long) method.invoke(ManagementFactory.getThreadMXBean(), self);
    } catch (ClassNotFoundException e) {
      return 0;
    }
  }

  private static ElderChest filled() {
    ElderChest x = new ElderChest();
    fill(x);
    return x;
  }

  private static void fill(ElderChest x) {
    Bounds.ten(x);
    Due.read(x, "may least 5 of everyone");
    for (int i = 0; i < 10; i++) {
      x.lock(i, false);
      x.box(2 * i, i + 1);
      x.key(i, i, true);
    }
    x.sheet(0, 64, 40);
    x.sheet(1, 64, 40);
    x.gone(9, true);
  }

  private static void dearCalls(ElderChest x) {
    for (int h = 0; h < 20; h++) {
      x.image();
      x.lets(h, -1);
      x.shut(h, 0);
      x.wrongly(h);
      x.lacks(h);
      x.same(h, 0);
      x.bears(h, 3);
      x.need(h, 0);
      x.could(h);
      x.spare(h, 0, 0);
      x.judge(0, h);
      x.thin(h);
      x.undo();
    }
    x.more();
    x.least(0);
    x.most(0);
    x.build();
    x.fewest();
    x.copy(0, 0, 1, 1, 39);
    x.feed('m', 1);
    x.text();
    x.status(-1);
  }
}
