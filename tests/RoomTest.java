import com.sun.management.ThreadMXBean;
import java.lang.management.ManagementFactory;

/** What a run makes must stay small: the object once, and next to nothing a call. */
public final class RoomTest {
  private static int wrong = 0;

  public static void main(String[] args) {
    ThreadMXBean threads = (ThreadMXBean) ManagementFactory.getThreadMXBean();
    warm();
    long before = threads.getCurrentThreadAllocatedBytes();
    long empty = threads.getCurrentThreadAllocatedBytes() - before;
    before = threads.getCurrentThreadAllocatedBytes();
    VanShelves x = new VanShelves();
    limit("the object", threads.getCurrentThreadAllocatedBytes() - before - empty, 60000);
    for (int i = 0; i < 10; i++) x.stop(10 * i, 99 - 7 * i, 5);
    for (int i = 0; i < 8; i++) x.visit(i, i % 2, i % 2);
    for (int i = 0; i < 16; i++) x.reader(i % 10, 0);
    for (int i = 0; i < 32; i++) x.book(i % 8, 1, 0, 5);
    before = threads.getCurrentThreadAllocatedBytes();
    for (int i = 0; i < 100; i++) x.load(i % 3, 1, 255, 0);
    for (int i = 0; i < 100; i++) x.served(i % 3, 0xFFFFFFFFL, 1);
    for (int i = 0; i < 60; i++) x.lostDay(i % 3, i / 3, 28, 1000);
    for (int i = 0; i < 60; i++) x.round(i % 3, 20 + i, i % 8);
    for (int i = 0; i < 60; i++) x.ring(-1);
    limit("380 calls", threads.getCurrentThreadAllocatedBytes() - before - empty, 1000);
    before = threads.getCurrentThreadAllocatedBytes();
    for (int i = 0; i < 50; i++) {
      x.feed(0x77352831, 0x3D312900, 0, 0, 0);
      x.law(7);
    }
    limit("50 laws", threads.getCurrentThreadAllocatedBytes() - before - empty, 50 * 64);
    if (wrong == 0) System.out.println("room: little is made");
    if (wrong != 0) System.exit(1);
  }

  /** What the machine makes when a class is used first does not count. */
  private static void warm() {
    VanShelves x = new VanShelves();
    for (int i = 0; i < 50; i++) {
      x.feed(0x77352831, 0x3D312900, 0, 0, 0);
      x.law(7);
    }
  }

  private static void limit(String what, long bytes, long most) {
    if (bytes > most) {
      wrong++;
      System.out.println(what + " made " + bytes + " bytes, at most " + most + " are due");
    }
  }
}
