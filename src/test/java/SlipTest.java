/** Promises 12, 13, 23, 24: kinds of slips, apart, twice, alike. */
public final class SlipTest {
  private static final Check CHECK = new Check("SlipTest");

  private static void due(String what, long got, long want) {
    CHECK.due(what, got, want);
  }

  private static void kind(int u, int v, int want) {
    due("kind(" + u + ", " + v + ")", new SlipTrees().kind(u, v), want);
  }

  private static void kinds() {
    kind(0, 0, 0);
    kind(9999, 9999, 0);
    // NEAR: just one digit, 1 or 3 apart.
    kind(0, 1, 1);
    kind(0, 3, 1);
    kind(0, 2, 4);
    kind(0, 4, 4);
    kind(0, 9, 4);
    kind(9, 10, 4);
    kind(1000, 0, 1);
    kind(3000, 0, 1);
    kind(1234, 1204, 1);
    kind(1234, 1534, 1);
    kind(1234, 2234, 1);
    kind(1234, 2244, 4);
    kind(9999, 9996, 1);
    kind(9999, 9998, 1);
    kind(9999, 9997, 4);
    kind(0, 1111, 4);
    // SWAP: two digits one behind the other.
    kind(1234, 2134, 2);
    kind(1234, 1324, 2);
    kind(1234, 1243, 2);
    kind(1234, 3214, 4);
    kind(1234, 4231, 4);
    kind(1234, 2143, 4);
    kind(100, 1000, 2);
    kind(1, 10, 2);
    kind(10, 1, 2);
    kind(1000, 1, 4);
    kind(12, 21, 2);
    // DROP: one digit of u is taken away.
    kind(1234, 234, 1);
    kind(2234, 234, 3);
    kind(1234, 134, 3);
    kind(1234, 124, 3);
    kind(1234, 123, 3);
    kind(1234, 12, 4);
    kind(234, 1234, 1);
    kind(234, 2344, 4);
    kind(9005, 5, 3);
    kind(9005, 905, 2);
    kind(9050, 50, 3);
    kind(50, 0, 3);
    kind(20, 0, 3);
    kind(10, 0, 1);
    kind(5, 0, 4);
    kind(7, 0, 4);
    kind(25, 5, 3);
    kind(15, 5, 1);
    kind(99, 9, 3);
    kind(11, 1, 1);
    kind(66, 6, 3);
    kind(506, 56, 2);
    kind(506, 50, 3);
    kind(506, 6, 3);
    kind(506, 5, 4);
    kind(9876, 1, 4);
    // What can't be.
    kind(-1, 0, -1);
    kind(0, -1, -1);
    kind(10000, 0, -1);
    kind(0, 10000, -1);
    kind(10000, 10000, -1);
    kind(Integer.MIN_VALUE, Integer.MAX_VALUE, -1);
  }

  private static SlipTrees told() {
    SlipTrees x = new SlipTrees();
    x.thing(1000, 1950, 12, 345, 3, 0);
    x.thing(1000, 1950, 12, 345, 3, 1);
    x.paper(10, 0, 3);
    x.paper(10, 0, 5);
    x.entry(0, 0, 1000, 1950, 12, 345, 0);
    x.entry(0, 0, 1001, 1950, 12, 346, 1);
    x.entry(1, 0, 1001, 1951, 21, 346, 2);
    x.entry(1, 1, 1001, 1950, 12, 346, 1);
    x.entry(1, 0, 1001, 1950, 12, 346, 9);
    return x;
  }

  private static void apart() {
    SlipTrees x = told();
    due("apart(0, 1, 0)", x.apart(0, 1, 0), 2);
    due("apart(0, 2, 0)", x.apart(0, 2, 0), 4);
    due("apart(1, 2, 0)", x.apart(1, 2, 0), 2);
    due("apart(1, 4, 0)", x.apart(1, 4, 0), 0);
    due("apart(1, 1, 0)", x.apart(1, 1, 0), 0);
    due("apart(0, 2, 1)", x.apart(0, 2, 1), 36);
    due("apart(1, 4, 1)", x.apart(1, 4, 1), 0);
    Tapes.law(x, "slip 100*[1+field]+from-to if field > 1");
    due("apart(0, 2, 1) by laws", x.apart(0, 2, 1), 18 + 300 - 9 + 400 - 1);
    due("apart(2, 0, 1) by laws", x.apart(2, 0, 1), 18 + 300 + 9 + 400 + 1);
    due("of two things", x.apart(1, 3, 0), -1);
    due("of two things", x.apart(1, 3, 1), -1);
    due("what -1", x.apart(0, 1, -1), -1);
    due("what 2", x.apart(0, 1, 2), -1);
    due("no entry", x.apart(0, 5, 0), -1);
    due("no entry", x.apart(5, 0, 1), -1);
    due("no entry", x.apart(-1, -1, 0), -1);
    due("no entry", x.apart(5, 5, 0), -1);
  }

  private static void twice() {
    SlipTrees x = told();
    due("none alike and wrong", x.twice(0, 1), 1);
    due("two", x.twice(1, 2), 100);
    due("two, the other way", x.twice(2, 1), 100);
    due("two, all alike", x.twice(1, 4), 100);
    Tapes.law(x, "slip 4 if field=0 and from=1000 and to=1001;slip 6 if field=3 and from=345");
    due("by laws", x.twice(4, 2), 5 * 7);
    Tapes.law(x, "slip 1000");
    due("dear", x.twice(1, 4), 1001L * 1001);
    x.entry(0, 0, 1, 1, 1, 1, 0);
    x.entry(0, 0, 1, 1, 1, 1, 0);
    due("dearest", x.twice(5, 6), 1001L * 1001 * 1001 * 1001);
    Tapes.law(x, "slip 0");
    due("for nothing", x.twice(5, 6), 1);
    due("one entry", x.twice(1, 1), -1);
    due("two things", x.twice(1, 3), -1);
    due("no entry", x.twice(0, 7), -1);
    due("no entry", x.twice(-1, 0), -1);
    x.entry(0, 1, 1001, 1950, 12, 345, 1);
    due("of a ghost", x.twice(3, 7), 1);
    Tapes.law(x, "slip 2 if ghost");
    due("of a ghost by law", x.twice(3, 7), 3);
  }

  private static void alike() {
    SlipTrees x = told();
    due("none seen", x.alike(1, 0), 0);
    due("on the day ahead", x.alike(1, 2), 0);
    due("itself", x.alike(1, 3), 1);
    due("itself and another claim's", x.alike(1, 5), 2);
    due("one not seen", x.alike(4, 3), 1);
    due("both", x.alike(4, 99), 2);
    due("another thing's", x.alike(3, 5), 1);
    due("alone", x.alike(0, 5), 1);
    due("no entry", x.alike(5, 5), -1);
    due("no entry", x.alike(-1, 5), -1);
    due("day -1", x.alike(1, -1), -1);
    due("day 100", x.alike(1, 100), -1);
    x.entry(0, 0, 1001, 1950, 12, 347, 9);
    x.entry(0, 0, 1001, 1950, 13, 346, 9);
    x.entry(0, 0, 1001, 1951, 12, 346, 9);
    x.entry(0, 0, 1002, 1950, 12, 346, 9);
    due("each field counts", x.alike(1, 5), 2);
  }

  public static void main(String[] args) {
    kinds();
    apart();
    twice();
    alike();
    CHECK.end();
  }
}
