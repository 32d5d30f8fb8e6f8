/** Terms I on a SLIP, TWICE, ALIKE, and promises 12, 13, 23, 24, sentence by sentence. */
public final class EdgeSlipTest {
  private static final Edge EDGE = new Edge("EdgeSlipTest");
  private static final int MIN = Integer.MIN_VALUE;
  private static final int MAX = Integer.MAX_VALUE;
  private static final SlipTrees ANY = new SlipTrees();

  private static void says(String words) {
    EDGE.says(words);
  }

  private static void due(String what, long got, long want) {
    EDGE.due(what, got, want);
  }

  private static void kind(int u, int v, int want) {
    due("kind(" + u + ", " + v + ")", new SlipTrees().kind(u, v), want);
  }

  private static void none() {
    says("0 none (alike)");
    for (int u : new int[] {0, 1, 9, 10, 11, 99, 100, 1000, 1100, 1122, 9998, 9999}) {
      kind(u, u, 0);
    }
    says("SLIP of a FIELD from u to v, unlike ones");
    kind(1122, 1122, 0);
    kind(7, 7, 0);
  }

  private static void near() {
    says("NEAR (four each, with zeros ahead): just one digit is another one, 1 or 3 apart");
    for (int unit = 1; unit <= 1000; unit *= 10) {
      for (int a = 0; a <= 9; a++) {
        for (int b = 0; b <= 9; b++) {
          int gap = Math.abs(a - b);
          int u = 5555 + (a - 5) * unit;
          int v = 5555 + (b - 5) * unit;
          // A first digit that becomes 0 is one that is taken away, too.
          kind(u, v, gap == 0 ? 0 : gap == 1 || gap == 3 ? 1 : unit == 1000 && b == 0 ? 3 : 4);
        }
      }
    }
    says("with zeros ahead");
    kind(0, 1, 1);
    kind(0, 3, 1);
    kind(0, 10, 1);
    kind(0, 300, 1);
    kind(0, 1000, 1);
    kind(3000, 0, 1);
    kind(999, 1999, 1);
    kind(99, 3099, 1);
    kind(0, 2, 4);
    kind(0, 2000, 4);
    kind(9, 10, 4);
    says("just one digit is another one");
    kind(11, 22, 4);
    kind(1111, 2222, 4);
    kind(1111, 2211, 4);
    kind(1111, 1124, 4);
    kind(5, 1006, 4);
    kind(6, 9, 1);
    kind(9, 0, 4);
    kind(0, 9, 4);
    kind(8, 1, 4);
  }

  private static void swap() {
    says("SWAP (likewise): two digits one behind the other have changed places, all else is alike");
    kind(1357, 3157, 2);
    kind(1357, 1537, 2);
    kind(1357, 1375, 2);
    kind(1357, 5317, 4);
    kind(1357, 1753, 4);
    kind(1357, 7351, 4);
    kind(1357, 3175, 4);
    kind(1357, 3156, 4);
    kind(1357, 1538, 4);
    kind(9989, 9998, 2);
    kind(9998, 9989, 2);
    kind(5, 50, 2);
    kind(50, 5, 2);
    kind(50, 500, 2);
    kind(500, 5000, 2);
    kind(5000, 500, 2);
    kind(5, 500, 4);
    kind(500, 5, 4);
    kind(5000, 5, 4);
    kind(12, 102, 2);
    kind(12, 21, 2);
    kind(21, 12, 2);
    kind(10, 1, 2);
    kind(1, 10, 2);
    kind(1000, 100, 2);
  }

  private static void drop() {
    says("DROP: u is 10 at least, and v is the number that is left of u (written without zeros ahead) if one of its"
        + " digits is taken away");
    kind(9, 0, 4);
    kind(5, 0, 4);
    kind(2, 0, 4);
    kind(20, 0, 3);
    kind(50, 0, 3);
    kind(90, 0, 3);
    kind(200, 0, 3);
    kind(2000, 0, 3);
    kind(27, 2, 3);
    kind(27, 7, 3);
    kind(275, 75, 3);
    kind(275, 25, 3);
    kind(275, 27, 3);
    kind(2755, 755, 3);
    kind(9755, 955, 3);
    kind(9755, 975, 3);
    kind(2705, 705, 3);
    kind(2070, 70, 3);
    kind(7005, 5, 3);
    kind(7005, 700, 3);
    kind(7005, 75, 4);
    kind(7005, 705, 2);
    kind(7005, 7, 4);
    kind(9999, 999, 3);
    kind(9999, 99, 4);
    kind(9999, 9, 4);
    kind(120, 12, 3);
    kind(275, 2, 4);
    kind(275, 275, 0);
    kind(27, 72, 2);
    kind(27, 277, 4);
    kind(2, 27, 4);
    says("(written without zeros ahead)");
    kind(27, 270, 4);
    kind(207, 7, 3);
    kind(2007, 7, 3);
    kind(2007, 27, 4);
  }

  private static void other() {
    says("else OTHER");
    kind(0, 9999, 4);
    kind(9999, 0, 4);
    kind(1234, 4321, 4);
    kind(1234, 5678, 4);
    kind(0, 5, 4);
  }

  private static void firstThatItIs() {
    says("4 OTHER (the first of these that it is)");
    kind(12, 2, 1);
    kind(31, 1, 1);
    kind(10, 0, 1);
    kind(300, 0, 1);
    kind(1234, 234, 1);
    kind(11, 1, 1);
    kind(10, 1, 2);
    kind(20, 2, 2);
    kind(2000, 200, 2);
    kind(9005, 905, 2);
    kind(5505, 5055, 2);
  }

  /** All of some numbers, by their digits as text. */
  private static void byDigits() {
    says("SLIP of a FIELD from u to v, unlike ones, by their digits");
    int wrong = 0;
    for (int u = 0; u <= 9999; u += u < 120 ? 1 : 97) {
      for (int v = 0; v <= 9999; v += v < 120 ? 1 : 101) {
        wrong += ANY.kind(u, v) == Plain.kindOf(u, v) ? 0 : 1;
      }
    }
    for (int u = 0; u <= 9999; u += 7) {
      for (int unit = 1; unit <= 1000; unit *= 10) {
        int taken = u / unit / 10 * unit + u % unit;
        wrong += ANY.kind(u, taken) == Plain.kindOf(u, taken) ? 0 : 1;
        wrong += ANY.kind(taken, u) == Plain.kindOf(taken, u) ? 0 : 1;
      }
    }
    due("kinds that are others", wrong, 0);
  }

  private static void noKind() {
    says("The kind of a SLIP from u to v (0 .. 9999)");
    kind(0, 0, 0);
    kind(9999, 9999, 0);
    kind(9998, 9999, 1);
    for (int out : new int[] {-1, 10000, 65536, MIN, MAX}) {
      kind(out, 0, -1);
      kind(0, out, -1);
      kind(out, 9999, -1);
      kind(9999, out, -1);
      kind(out, out, -1);
    }
  }

  // Promise 13.

  /** Thing 0 is right with 1000 in each field, thing 1 is another one; the papers are seen from day 99 on. */
  private static SlipTrees told() {
    SlipTrees x = new SlipTrees();
    x.thing(1000, 1000, 1000, 1000, 5, 0);
    x.thing(1000, 1000, 1000, 1000, 5, 0);
    x.paper(1, 0, 99);
    x.paper(2, 0, 99);
    return x;
  }

  private static void apart() {
    says("How many FIELDS of two ENTRIES of one THING are unlike (what 0)");
    SlipTrees x = told();
    int a = x.entry(0, 0, 1, 2, 3, 4, 0);
    int all = x.entry(1, 0, 5, 6, 7, 8, 0);
    int[] one = {x.entry(0, 0, 9, 2, 3, 4, 0), x.entry(0, 0, 1, 9, 3, 4, 0), x.entry(0, 0, 1, 2, 9, 4, 0),
        x.entry(0, 0, 1, 2, 3, 9, 0)};
    int claim = x.entry(0, 0, 1, 2, 3, 4, 9);
    int other = x.entry(0, 1, 1, 2, 3, 4, 0);
    due("all", x.apart(a, all, 0), 4);
    for (int e : one) {
      due("one field", x.apart(a, e, 0), 1);
      due("one field's slip", x.apart(a, e, 1), 9);
    }
    due("but the claim", x.apart(a, claim, 0), 0);
    due("but the claim", x.apart(a, claim, 1), 0);
    due("an entry and itself", x.apart(a, a, 0), 0);
    due("an entry and itself", x.apart(a, a, 1), 0);
    due("the first entry of all", x.apart(0, 1, 0), 4);
    says("NONE.");
    due("of two things", x.apart(a, other, 0), -1);
    due("of two things", x.apart(other, a, 1), -1);
    for (int what : new int[] {-1, 2, MIN, MAX}) {
      due("what " + what, x.apart(a, all, what), -1);
    }
    for (int none : new int[] {-1, other + 1, 120, MIN, MAX}) {
      due("no entry " + none, x.apart(a, none, 0), -1);
      due("no entry " + none, x.apart(none, a, 1), -1);
      due("no entry " + none, x.apart(none, none, 0), -1);
    }
    due("where nothing is told", new SlipTrees().apart(0, 0, 0), -1);
  }

  private static void apartByLaw() {
    says("what \"slip\" tells of all these from a to b (1)");
    SlipTrees x = told();
    int a = x.entry(0, 0, 1, 20, 3, 40, 0);
    int b = x.entry(1, 0, 10, 2, 3, 4, 0);
    Tapes.law(x, "slip 100+[to-from]");
    due("from a to b", x.apart(a, b, 1), 109 + 82 + 64);
    due("from b to a", x.apart(b, a, 1), 91 + 118 + 136);
    Tapes.law(x, "slip 1000");
    due("the most", x.apart(a, b, 1), 3000);
    Tapes.law(x, "slip 0-1");
    due("the least", x.apart(a, b, 1), 0);
  }

  // Promise 23.

  private static void twice() {
    says("for each FIELD in which both are alike and not right 1 through (1 and what \"slip\" tells of it, from what"
        + " is right), all multiplied: its lower number (1 without any)");
    SlipTrees x = told();
    int right = x.entry(0, 0, 1000, 1000, 1000, 1000, 0);
    int again = x.entry(0, 0, 1000, 1000, 1000, 1000, 0);
    int a = x.entry(0, 0, 1, 2, 3, 4, 0);
    int unlike = x.entry(0, 0, 5, 6, 7, 8, 0);
    int same = x.entry(1, 0, 1, 2, 3, 4, 0);
    due("both right", x.twice(right, again), 1);
    due("one right, one not", x.twice(right, a), 1);
    due("both not right, but unlike", x.twice(a, unlike), 1);
    due("all alike and not right", x.twice(a, same), 10000);
    due("the other way round", x.twice(same, a), 10000);
    int[] factors = {3, 5, 7, 11};
    Tapes.law(x, "slip 2 if field=0 and from=1000 and to=1;slip 4 if field=1 and from=1000 and to=2;"
        + "slip 6 if field=2 and from=1000 and to=3;slip 10 if field=3 and from=1000 and to=4");
    due("by each field's law", x.twice(a, same), 3 * 5 * 7 * 11);
    for (int field = 0; field < 4; field++) {
      int[] f = {9, 9, 9, 9};
      f[field] = field + 1;
      int e = x.entry(1, 0, f[0], f[1], f[2], f[3], 0);
      due("field " + field + " alone", x.twice(a, e), factors[field]);
      f = new int[] {1, 2, 3, 4};
      f[field] = 1000;
      e = x.entry(1, 0, f[0], f[1], f[2], f[3], 0);
      due("all but field " + field, x.twice(e, a), 3 * 5 * 7 * 11 / factors[field]);
    }
  }

  private static void twiceAtMost() {
    says("all multiplied");
    SlipTrees x = told();
    int a = x.entry(0, 0, 1, 2, 3, 4, 0);
    int b = x.entry(1, 0, 1, 2, 3, 4, 9);
    Tapes.law(x, "slip 1001");
    due("the highest", x.twice(a, b), 1_004_006_004_001L);
    Tapes.law(x, "slip 0");
    due("slips for nothing", x.twice(a, b), 1);
    Tapes.law(x, "slip 1 if field = 3");
    due("one slip", x.twice(a, b), 2);
    x.thing(1, 2, 3, 4, 0, 1);
    int g = x.entry(0, 2, 1, 2, 7, 7, 0);
    int h = x.entry(0, 2, 1, 2, 7, 7, 0);
    due("a ghost's right fields count as right", x.twice(g, h), 2);
  }

  private static void noTwice() {
    says("TWICE of two unlike ENTRIES of one THING; NONE.");
    SlipTrees x = told();
    int a = x.entry(0, 0, 1, 2, 3, 4, 0);
    int b = x.entry(0, 0, 1, 2, 3, 4, 0);
    int other = x.entry(0, 1, 1, 2, 3, 4, 0);
    due("two entries that are alike", x.twice(a, b), 10000);
    due("an entry and itself", x.twice(a, a), -1);
    due("of two things", x.twice(a, other), -1);
    due("of two things", x.twice(other, b), -1);
    for (int none : new int[] {-1, 3, 119, 120, MIN, MAX}) {
      due("no entry " + none, x.twice(a, none), -1);
      due("no entry " + none, x.twice(none, a), -1);
      due("no entries " + none, x.twice(none, none), -1);
    }
    due("no entries", x.twice(-1, -2), -1);
  }

  // Promise 24.

  private static void alike() {
    says("how many ENTRIES of SEEN PAPERS have the same THING and FIELDS as one (it, too, if SEEN)");
    SlipTrees x = new SlipTrees();
    x.thing(1, 1, 1, 1, 1, 0);
    x.thing(1, 1, 1, 1, 1, 0);
    x.paper(1, 0, 0);
    x.paper(1, 0, 50);
    x.paper(1, 0, 99);
    x.entry(1, 0, 1, 2, 3, 4, 5);
    x.entry(0, 0, 1, 2, 3, 4, 6);
    x.entry(2, 0, 1, 2, 3, 4, 7);
    x.entry(2, 0, 1, 2, 3, 4, 7);
    x.entry(0, 1, 1, 2, 3, 4, 5);
    for (int field = 0; field < 4; field++) {
      int[] f = {1, 2, 3, 4};
      f[field] = 9;
      x.entry(0, 0, f[0], f[1], f[2], f[3], 5);
    }
    due("it is not seen, another one is", x.alike(0, 0), 1);
    due("on 49", x.alike(0, 49), 1);
    due("on 50", x.alike(0, 50), 2);
    due("on 98", x.alike(2, 98), 2);
    due("on 99", x.alike(2, 99), 4);
    due("another thing's", x.alike(4, 99), 1);
    due("another field's", x.alike(5, 99), 1);
    due("another last field's", x.alike(8, 99), 1);
    SlipTrees y = new SlipTrees();
    y.thing(1, 1, 1, 1, 1, 0);
    y.paper(1, 0, 1);
    y.entry(0, 0, 1, 1, 1, 1, 1);
    due("none seen", y.alike(0, 0), 0);
    due("it alone", y.alike(0, 1), 1);
    says("ALIKE of an ENTRY as SEEN on a DAY; NONE.");
    for (int none : new int[] {-1, 1, 119, 120, MIN, MAX}) {
      due("no entry " + none, y.alike(none, 1), -1);
    }
    for (int day : new int[] {-1, 100, MIN, MAX}) {
      due("no day " + day, y.alike(0, day), -1);
    }
    due("day 99", y.alike(0, 99), 1);
  }

  public static void main(String[] args) {
    none();
    near();
    swap();
    drop();
    other();
    firstThatItIs();
    byDigits();
    noKind();
    apart();
    apartByLaw();
    twice();
    twiceAtMost();
    noTwice();
    alike();
    EDGE.end();
  }
}
