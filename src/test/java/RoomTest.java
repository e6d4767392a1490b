import java.lang.management.ManagementFactory;
import java.util.Random;

/** How much room a run takes, and that no argument makes a call throw or go on for ever. */
public final class RoomTest {
  // 7.3 million fields and elements of 4 bytes are some 29 million bytes; a hundredth of that is plenty for 512 calls.
  private static final long MOST_BYTES = 290_000;
  private static final int CALLS = 512;

  private static int wrong = 0;

  private static long made() {
    return ((com.sun.management.ThreadMXBean) ManagementFactory.getThreadMXBean()).getThreadAllocatedBytes(Thread.currentThread().getId());
  }

  private static int call(MeanLocks x, int which, int[] a) {
    switch (which) {
      case 0: return x.set(a[0], a[1]);
      case 1: return x.request(a[0], a[1], a[2], a[3], a[4]);
      case 2: return x.free(a[0], a[1], a[2]);
      case 3: return x.cancel(a[0]);
      case 4: return x.leave(a[0]);
      case 5: return x.ticks(a[0]);
      case 6: return x.at(a[0], a[1]);
      case 7: return x.owners(a[0], a[1]);
      case 8: return x.ofOwner(a[0], a[1]);
      case 9: return x.stretch(a[0], a[1], a[2]);
      case 10: return x.inRow(a[0]);
      case 11: return x.waitsFor(a[0]);
      case 12: return x.count(a[0]);
      case 13: return x.couldGive(a[0], a[1], a[2], a[3]);
      case 14: return x.inTheWay(a[0], a[1], a[2], a[3]);
      case 15: return x.ring(a[0], a[1], a[2], a[3]);
      case 16: return x.firstFor(a[0], a[1], a[2], a[3]);
      case 17: return x.longestFor(a[0], a[1], a[2]);
      case 18: return x.givenIf(a[0]);
      case 19: return x.greatestBar(a[0]);
      case 20: return x.put((long) a[0] << 32 | a[1] & 0xffffffffL);
      case 21: return x.wipe();
      case 22: return x.fault();
      case 23: return x.carryOut();
      case 24: return x.undo();
      case 25: return x.save(a[0]);
      default: return x.restore(a[0]);
    }
  }

  private static void anyArguments() {
    int[] edges = {Integer.MIN_VALUE, Integer.MIN_VALUE + 1, -301, -8, -1, 0, 1, 2, 3, 4, 7, 8, 32, 299, 300, 301, Integer.MAX_VALUE - 1, Integer.MAX_VALUE};
    Random random = new Random(5);
    int[] a = new int[5];
    for (int object = 0; object < 400; object++) {
      MeanLocks x = new MeanLocks();
      x.set(1, object & 1);
      for (int i = 0; i < CALLS; i++) {
        int which = random.nextInt(3) == 0 ? 1 : random.nextInt(27);
        for (int k = 0; k < 5; k++) a[k] = edges[random.nextInt(edges.length)];
        if (random.nextInt(3) > 0) a = new int[] {random.nextInt(8), 1 + random.nextInt(3), random.nextInt(40), 1 + random.nextInt(60), 1};
        int got = call(x, which, a);
        if (got < -6) {
          wrong++;
          System.out.println("call " + which + " answered " + got);
        }
      }
    }
  }

  private static void put(MeanLocks x, String text) {
    for (int i = 0; i < text.length(); i++) x.put(text.charAt(i));
  }

  private static long bytesOf(MeanLocks x, int which, int[] a) {
    long before = made();
    for (int i = 0; i < CALLS; i++) {
      call(x, which, a);
      call(x, 1, new int[] {i & 7, 3, 0, 300, 1});
      call(x, 24, a);
    }
    return made() - before - CALLS * 40L;
  }

  private static void room() {
    int[] a = {1, 1, 0, 300, 1};
    for (int which = 0; which < 27; which++) {
      long before = made();
      MeanLocks x = new MeanLocks();
      x.set(1, 1);
      for (int owner = 0; owner < 8; owner++) x.request(owner, 1, 0, 300, 0);
      for (int owner = 0; owner < 8; owner++) x.request(owner, 3, owner, 300, 1);
      x.save(0);
      x.save(1);
      put(x, "t300;t300;t300");
      bytesOf(x, which, a);
      long bytes = made() - before;
      if (bytes > MOST_BYTES) {
        wrong++;
        System.out.println("call " + which + " makes " + bytes + " bytes in " + CALLS + " calls");
      }
    }
  }

  private static void manyObjects() {
    long before = made();
    for (int i = 0; i < CALLS; i++) new MeanLocks().ticks(1);
    long bytes = made() - before;
    if (bytes > 100 * MOST_BYTES) {
      wrong++;
      System.out.println(CALLS + " objects take " + bytes + " bytes");
    }
    System.out.println("an object with one change takes " + bytes / CALLS + " bytes");
  }

  public static void main(String[] args) {
    anyArguments();
    room();
    manyObjects();
    System.out.println(wrong == 0 ? "the room is kept" : "failed");
    if (wrong != 0) System.exit(1);
  }
}
