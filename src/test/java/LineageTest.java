/** Promises 20 to 22: births, drift, weight. */
public final class LineageTest {
  private static final Check CHECK = new Check("LineageTest");

  private static void due(String what, long got, long want) {
    CHECK.due(what, got, want);
  }

  /** Four papers, each lifting from the one ahead of it; the third is seen later. */
  private static SlipTrees told() {
    SlipTrees x = new SlipTrees();
    x.thing(1, 1, 1, 1, 3, 0);
    x.thing(2, 2, 2, 2, 4, 1);
    x.paper(1, 0, 0);
    x.paper(2, 0, 0);
    x.paper(3, 0, 6);
    x.paper(4, 0, 0);
    x.entry(0, 0, 1, 1, 1, 8, 5);
    x.entry(1, 0, 1, 1, 7, 8, 6);
    x.entry(2, 0, 1, 6, 7, 8, 9);
    x.entry(3, 0, 5, 6, 7, 8, 2);
    x.entry(0, 1, 2, 2, 2, 2, 9);
    x.entry(1, 1, 2, 2, 2, 2, 1);
    x.entry(3, 1, 9, 9, 9, 9, 1);
    return x;
  }

  private static void births() {
    SlipTrees x = told();
    due("births", x.births(1, 0, -1), 2);
    due("first", x.births(1, 0, 0), 4);
    due("second", x.births(1, 0, 1), 6);
    due("third", x.births(1, 0, 2), -1);
    due("i -2", x.births(1, 0, -2), -1);
    due("i min", x.births(1, 0, Integer.MIN_VALUE), -1);
    due("of no ghost", x.births(0, 0, -1), -1);
    due("of no thing", x.births(2, 0, -1), -1);
    due("of no thing", x.births(-1, 0, -1), -1);
    due("day -1", x.births(1, -1, -1), -1);
    due("day 100", x.births(1, 100, -1), -1);
    x.paper(0, 0, 9);
    x.entry(4, 1, 2, 2, 2, 2, 0);
    due("on 8", x.births(1, 8, -1), 2);
    due("on 9", x.births(1, 9, -1), 2);
    due("first on 9", x.births(1, 9, 0), 6);
    due("second on 9", x.births(1, 9, 1), 7);
    x.thing(3, 3, 3, 3, 3, 1);
    due("of a ghost without entries", x.births(2, 9, -1), 0);
    due("first of none", x.births(2, 9, 0), -1);
    Tapes.law(x, "birth 0");
    due("all born", x.births(1, 9, -1), 4);
  }

  private static void theFirstEntry() {
    SlipTrees x = new SlipTrees();
    x.thing(2, 2, 2, 2, 4, 1);
    x.paper(1, 0, 0);
    x.entry(0, 0, 2, 2, 2, 2, 9);
    due("one birth", x.births(0, 0, -1), 1);
    due("the first entry", x.births(0, 0, 0), 0);
    due("no second", x.births(0, 0, 1), -1);
  }

  private static void drift() {
    SlipTrees x = told();
    due("looked: less the thing's", x.drift(0, 0), 5 - 3);
    due("lifted: less its origin's", x.drift(1, 0), 6 - 5);
    due("not seen", x.drift(2, 5), -100);
    due("seen", x.drift(2, 6), 9 - 6);
    due("lifted from the second while the third is not seen", x.drift(3, 0), 2 - 6);
    due("lifted from the third", x.drift(3, 6), 2 - 9);
    due("born", x.drift(4, 0), 0);
    due("a ghost's lifted", x.drift(5, 0), 1 - 9);
    due("no entry", x.drift(7, 0), -100);
    due("no entry", x.drift(-1, 0), -100);
    due("day -1", x.drift(0, -1), -100);
    due("day 100", x.drift(0, 100), -100);
    x.paper(9, 0, 0);
    x.entry(4, 0, 1, 1, 1, 1, 0);
    due("looked alone", x.drift(7, 0), -3);
  }

  private static void weight() {
    SlipTrees x = told();
    due("from the third's", x.from(3, 6), 2);
    due("from the second's", x.from(2, 6), 1);
    due("from the first's", x.from(1, 6), 0);
    due("all behind it", x.weight(0, 6), 3);
    due("two behind it", x.weight(1, 6), 2);
    due("one behind it", x.weight(2, 6), 1);
    due("none behind it", x.weight(3, 6), 0);
    due("not seen", x.weight(2, 5), -1);
    due("a ghost's", x.weight(4, 6), 1);
    due("a ghost's that is lifted", x.weight(5, 6), 0);
    due("on the day ahead", x.weight(0, 5), 2);
    due("on that day from the second's", x.weight(1, 5), 1);
    due("no entry", x.weight(7, 0), -1);
    due("no entry", x.weight(-1, 0), -1);
    due("day -1", x.weight(0, -1), -1);
    due("day 100", x.weight(0, 100), -1);
    Tapes.law(x, "bar if years = 1");
    due("barred: the fourth still lifts from the second", x.weight(1, 6), 1);
    due("barred: the third from the first", x.weight(0, 6), 1);
  }

  /** Sixteen papers in a row: the longest way back there can be. */
  private static void longest() {
    SlipTrees x = new SlipTrees();
    x.thing(0, 0, 0, 0, 0, 0);
    for (int p = 0; p < 16; p++) {
      x.paper(20 - p, 0, 0);
      x.entry(p, 0, 0, 0, 0, 9, p % 10);
    }
    Tapes.law(x, "bar if not years = 1;look 900");
    due("the last", x.weight(15, 0), 15);
    due("one ahead of it", x.weight(14, 0), 14);
    due("the first", x.weight(0, 0), 0);
    due("its origin", x.from(0, 0), 1);
    due("looked", x.tree(0, 1), 1);
    due("lifted", x.tree(0, 2), 15);
  }

  public static void main(String[] args) {
    births();
    theFirstEntry();
    drift();
    weight();
    longest();
    CHECK.end();
  }
}
