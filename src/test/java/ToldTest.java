/** Promises 1 to 4, 6, 7, 29, 30: a new object, things, papers, entries and what is counted. */
public final class ToldTest {
  private static final Check CHECK = new Check("ToldTest");

  private static void due(String what, long got, long want) {
    CHECK.due(what, got, want);
  }

  private static SlipTrees withThing() {
    SlipTrees x = new SlipTrees();
    x.thing(1, 2, 3, 4, 5, 0);
    return x;
  }

  private static void newObject() {
    SlipTrees x = new SlipTrees();
    for (int what = 0; what <= 9; what++) {
      due("new: count(" + what + ")", x.count(what), 0);
    }
    due("new: status", x.status(), 0);
    due("new: fault", x.fault(), -1);
    due("new: list(0, -1)", x.list(0, -1), -1);
    due("new: of(0, 0)", x.of(0, 0), -1);
    due("new: least(0, 0, 0)", x.least(0, 0, 0), -1);
    due("new: tree(0, 0)", x.tree(0, 0), 0);
    due("new: lookers(0, 0, 1)", x.lookers(0, 0, 1), 0);
    due("new: from(0, 0)", x.from(0, 0), -2);
    due("new: back(0)", x.back(0), -2);
    due("NONE", SlipTrees.NONE, -1);
  }

  private static void things() {
    SlipTrees x = new SlipTrees();
    due("lowest thing", x.thing(0, 0, 0, 0, 0, 0), 0);
    due("highest thing", x.thing(9999, 9999, 9999, 9999, 9, 1), 1);
    int[][] wrong = {
      {10000, 0, 0, 0, 0, 0}, {-1, 0, 0, 0, 0, 0}, {0, 10000, 0, 0, 0, 0}, {0, -1, 0, 0, 0, 0},
      {0, 0, 10000, 0, 0, 0}, {0, 0, -1, 0, 0, 0}, {0, 0, 0, 10000, 0, 0}, {0, 0, 0, -1, 0, 0},
      {0, 0, 0, 0, 10, 0}, {0, 0, 0, 0, -1, 0}, {0, 0, 0, 0, 0, 2}, {0, 0, 0, 0, 0, -1},
      {Integer.MIN_VALUE, 0, 0, 0, 0, 0}, {0, 0, 0, 0, Integer.MAX_VALUE, 0},
    };
    for (int[] w : wrong) {
      due("wrong thing", x.thing(w[0], w[1], w[2], w[3], w[4], w[5]), -1);
      due("status of a wrong thing", x.status(), -1);
    }
    due("count of -1", x.count(5), wrong.length);
    due("things", x.count(0), 2);
    for (int i = 2; i < 8; i++) {
      due("thing " + i, x.thing(i, i, i, i, i, i % 2), i);
      due("status of a thing", x.status(), 0);
    }
    due("ninth thing", x.thing(0, 0, 0, 0, 0, 0), -5);
    due("status of the ninth", x.status(), -5);
    due("ninth thing with a wrong number", x.thing(0, 0, 0, 0, 0, 2), -1);
    due("count of -5", x.count(8), 1);
    due("eight things", x.count(0), 8);
  }

  private static void papers() {
    SlipTrees x = new SlipTrees();
    due("lowest paper", x.paper(0, 0, 0), 0);
    due("highest paper", x.paper(399, 7, 99), 1);
    int[][] wrong = {{400, 0, 0}, {-1, 0, 0}, {0, 8, 0}, {0, -1, 0}, {0, 0, 100}, {0, 0, -1}};
    for (int[] w : wrong) {
      due("wrong paper", x.paper(w[0], w[1], w[2]), -1);
      due("status of a wrong paper", x.status(), -1);
    }
    due("papers", x.count(1), 2);
    for (int i = 2; i < 16; i++) {
      due("paper " + i, x.paper(i, 0, 0), i);
    }
    due("status of a paper", x.status(), 0);
    due("seventeenth paper", x.paper(0, 0, 0), -5);
    due("seventeenth paper with a wrong number", x.paper(400, 0, 0), -1);
    due("status at last", x.status(), -1);
    due("sixteen papers", x.count(1), 16);
    due("count of -1", x.count(5), 7);
    due("count of -5", x.count(8), 1);
  }

  private static void entries() {
    SlipTrees x = withThing();
    x.paper(0, 0, 0);
    due("lowest entry", x.entry(0, 0, 0, 0, 0, 0, 0), 0);
    due("highest entry", x.entry(0, 0, 9999, 9999, 9999, 9999, 9), 1);
    int[][] wrong = {
      {0, 0, 10000, 0, 0, 0, 0}, {0, 0, -1, 0, 0, 0, 0}, {0, 0, 0, 10000, 0, 0, 0}, {0, 0, 0, -1, 0, 0, 0},
      {0, 0, 0, 0, 10000, 0, 0}, {0, 0, 0, 0, -1, 0, 0}, {0, 0, 0, 0, 0, 10000, 0}, {0, 0, 0, 0, 0, -1, 0},
      {0, 0, 0, 0, 0, 0, 10}, {0, 0, 0, 0, 0, 0, -1}, {9, 9, 0, 0, 0, 0, 10},
    };
    for (int[] w : wrong) {
      due("wrong entry", x.entry(w[0], w[1], w[2], w[3], w[4], w[5], w[6]), -1);
    }
    int[][] none = {{1, 0}, {-1, 0}, {16, 0}, {0, 1}, {0, -1}, {0, 8}, {Integer.MAX_VALUE, Integer.MIN_VALUE}};
    for (int[] n : none) {
      due("entry of no paper or thing", x.entry(n[0], n[1], 0, 0, 0, 0, 0), -2);
      due("status of such an entry", x.status(), -2);
    }
    due("count of -2", x.count(6), none.length);
    for (int i = 2; i < 12; i++) {
      due("entry " + i, x.entry(0, 0, i, 0, 0, 0, 0), i);
    }
    due("thirteenth entry of a list", x.entry(0, 0, 0, 0, 0, 0, 0), -5);
    due("thirteenth entry of no thing", x.entry(0, 3, 0, 0, 0, 0, 0), -2);
    due("thirteenth entry with a wrong number", x.entry(0, 0, 0, 0, 0, 10000, 0), -1);
    due("list of twelve", x.list(0, -1), 12);
    due("count of -5", x.count(8), 1);
    due("count of -1", x.count(5), wrong.length + 1);
  }

  private static void roomInAll() {
    SlipTrees x = withThing();
    for (int p = 0; p < 11; p++) {
      x.paper(p, 0, 0);
    }
    for (int i = 0; i < 120; i++) {
      due("entry " + i, x.entry(i % 10, 0, 0, 0, 0, 0, 0), i);
    }
    due("entry beyond 120", x.entry(10, 0, 0, 0, 0, 0, 0), -5);
    due("status beyond 120", x.status(), -5);
    due("empty list", x.list(10, -1), 0);
    due("entries", x.count(2), 120);
    due("last entry's place", x.of(119, 1), 11);
    due("last entry's paper", x.of(119, 0), 9);
    due("no entry behind the last", x.of(120, 0), -1);
  }

  private static void whatIsKept() {
    SlipTrees x = withThing();
    x.thing(9, 9, 9, 9, 9, 1);
    x.paper(5, 1, 2);
    x.paper(6, 1, 2);
    x.entry(1, 1, 11, 12, 13, 14, 6);
    x.entry(0, 0, 21, 22, 23, 24, 7);
    x.entry(1, 0, 31, 32, 33, 34, 8);
    int[][] rows = {{1, 0, 1, 11, 12, 13, 14, 6}, {0, 0, 0, 21, 22, 23, 24, 7}, {1, 1, 0, 31, 32, 33, 34, 8}};
    for (int e = 0; e < 3; e++) {
      for (int what = 0; what < 8; what++) {
        due("of(" + e + ", " + what + ")", x.of(e, what), rows[e][what]);
      }
      due("of what is not", x.of(e, 8), -1);
      due("of what is not", x.of(e, -1), -1);
    }
    due("of(3, 0)", x.of(3, 0), -1);
    due("of(-1, 0)", x.of(-1, 0), -1);
    due("list(0, -1)", x.list(0, -1), 1);
    due("list(1, -1)", x.list(1, -1), 2);
    due("list(0, 0)", x.list(0, 0), 1);
    due("list(1, 0)", x.list(1, 0), 0);
    due("list(1, 1)", x.list(1, 1), 2);
    due("list(1, 2)", x.list(1, 2), -1);
    due("list(1, -2)", x.list(1, -2), -1);
    due("list(2, -1)", x.list(2, -1), -1);
    due("list(-1, 0)", x.list(-1, 0), -1);
    due("list(1, max)", x.list(1, Integer.MAX_VALUE), -1);
  }

  private static void counts() {
    SlipTrees x = withThing();
    x.thing(1, 1, 1, 1, 1, 1);
    x.paper(1, 1, 1);
    x.paper(1, 1, 1);
    x.paper(1, 1, 1);
    x.entry(0, 0, 0, 0, 0, 0, 0);
    Tapes.law(x, "bar");
    Tapes.law(x, "bar");
    Tapes.law(x, "bar");
    Tapes.law(x, "bar");
    Tapes.put(x, 1, 2, 3);
    int[] want = {2, 3, 1, 4, 3, 0, 0, 0, 0, 0};
    for (int what = 0; what < want.length; what++) {
      due("count(" + what + ")", x.count(what), want[what]);
    }
    due("count(-1)", x.count(-1), -1);
    due("count(10)", x.count(10), -1);
    due("count(min)", x.count(Integer.MIN_VALUE), -1);
    due("count(max)", x.count(Integer.MAX_VALUE), -1);
    x.image(2);
    x.back(1);
    x.row(3);
    due("count(4) behind a row that is refused", x.count(4), 0);
    x.row(0);
    Tapes.law(x, "slip");
    due("count of -1", x.count(5), 1);
    due("count of -2", x.count(6), 2);
    due("count of -3", x.count(7), 0);
    due("count of -5", x.count(8), 0);
    due("count of -6", x.count(9), 2);
  }

  /** Only seven methods can be REFUSED; all others leave status and counts as they are. */
  private static void statuses() {
    SlipTrees x = withThing();
    x.entry(4, 0, 0, 0, 0, 0, 0);
    due("status of entry", x.status(), -2);
    x.kind(-1, 0);
    x.of(7, 7);
    x.list(7, 0);
    x.end(1);
    x.fault();
    x.apart(5, 5, 0);
    x.least(9, 9, 9);
    x.source(9, 0, 0);
    x.from(9, 0);
    x.judge(9, 0, 0);
    x.tree(-1, 0);
    x.lookers(-1, 0, 0);
    x.births(9, 0, 0);
    x.drift(9, 0);
    x.weight(9, 0);
    x.twice(9, 9);
    x.alike(9, 0);
    x.run(9, 9, 0);
    x.world(-1, 0, 0);
    x.count(11);
    due("status after questions", x.status(), -2);
    due("count of -1 after questions", x.count(5), 0);
    due("count of -2 after questions", x.count(6), 1);
    x.paper(0, 0, 0);
    due("status of paper", x.status(), 0);
    x.row(0);
    due("status of row", x.status(), -6);
    x.image(0);
    due("status of image", x.status(), 0);
    x.back(1);
    due("status of back", x.status(), -2);
    x.back(0);
    due("status of back that goes", x.status(), 0);
    x.law();
    due("status of law", x.status(), -6);
    Tapes.law(x, "bar");
    due("status of law that goes", x.status(), 0);
    x.image(-1);
    due("status of image(-1)", x.status(), -1);
    Tapes.put(x, Tapes.ten(0, 1, 1, 1, 1, 1));
    due("a row", x.row(0), 1);
    due("status of row that goes", x.status(), 0);
  }

  public static void main(String[] args) {
    newObject();
    things();
    papers();
    entries();
    roomInAll();
    whatIsKept();
    counts();
    statuses();
    CHECK.end();
  }
}
