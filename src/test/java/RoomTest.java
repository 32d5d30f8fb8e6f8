import com.sun.management.ThreadMXBean;
import java.lang.management.ManagementFactory;

/** What an object and its 512 calls make: all calls of one run live in one room, so that has to stay small. */
public final class RoomTest {
  private static final Check CHECK = new Check("RoomTest");
  private static final ThreadMXBean BEAN = (ThreadMXBean) ManagementFactory.getThreadMXBean();
  private static final long MOST_OF_AN_OBJECT = 60_000;
  private static final long MOST_OF_A_LAW = 5_000;

  private static long made() {
    return BEAN.getThreadAllocatedBytes(Thread.currentThread().getId());
  }

  private static void atMost(String what, long bytes, long most) {
    CHECK.due(what + " makes " + bytes + " bytes, at most " + most, bytes <= most ? 1 : 0, 1);
  }

  /** All calls but law, on an object that is full. */
  private static int ask(SlipTrees x, int i) {
    int found = x.thing(1, 1, 1, 1, 1, 0) + x.paper(i, 0, 0) + x.entry(0, 0, 1, 1, 1, 1, 1);
    found += x.feed(i, i, i, i, i) + x.end(10) + x.row(i % 16) + x.image(i % 2) + x.back(i % 2);
    found += x.of(i, 3) + x.list(i, -1) + x.fault() + x.kind(i, 77) + x.apart(i, 0, 1) + x.least(i, 50, 0);
    found += x.source(i, 50, 1) + x.from(i, 50) + x.judge(i, 7, 50) + x.tree(50, i % 6) + x.lookers(40, 50, i % 2);
    found += x.births(1, 50, -1) + x.drift(i, 50) + x.weight(i, 50) + (int) x.twice(i, 0) + x.alike(i, 50);
    return found + x.run(0, i, 0) + x.world(i, 8, i % 4) + x.count(i % 10) + x.status();
  }

  private static SlipTrees full() {
    SlipTrees x = new SlipTrees();
    for (int t = 0; t < 8; t++) {
      x.thing(t, t, t, t, t, t == 1 ? 1 : 0);
    }
    for (int p = 0; p < 16; p++) {
      x.paper(p, p % 3, p);
    }
    for (int i = 0; i < 100; i++) {
      x.entry(i % 16, i % 8, i % 7, i % 5, i % 3, i % 2, i % 10);
    }
    Tapes.law(x, "slip 4 if near;look 7;open 2 if kin");
    return x;
  }

  public static void main(String[] args) {
    // Once ahead of all, so that what the machine itself makes on first use is not counted.
    ask(full(), 1);
    made();
    long before = made();
    SlipTrees x = new SlipTrees();
    atMost("a new object", made() - before, MOST_OF_AN_OBJECT);
    x = full();
    int found = 0;
    before = made();
    for (int i = 0; i < 16; i++) {
      found += ask(x, i);
    }
    atMost("any call but law", made() - before, 200);
    CHECK.due("status at last", x.status(), 0);
    String text = "slip 1" + "+1".repeat(49) + ";bar".repeat(11);
    Tapes.text(x, text);
    before = made();
    found += x.law();
    atMost("a law", made() - before, MOST_OF_A_LAW);
    CHECK.due("which is a text", x.count(3), 2);
    CHECK.so("something was found", found != 0);
    CHECK.end();
  }
}
