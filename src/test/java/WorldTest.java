/** Promise 26: worlds made from a seed, and tried by the laws. */
public final class WorldTest {
  private static final Check CHECK = new Check("WorldTest");

  private static void due(String what, long got, long want) {
    CHECK.due(what, got, want);
  }

  private static void world(SlipTrees x, int seed, int papers, int entries, int right, int looked, int sum) {
    String what = "world(" + seed + ", " + papers + ", ";
    due(what + "0)", x.world(seed, papers, 0), entries);
    due(what + "1)", x.world(seed, papers, 1), right);
    due(what + "2)", x.world(seed, papers, 2), looked);
    due(what + "3)", x.world(seed, papers, 3), sum);
  }

  /** The draws of seed 0 are 12345, 628841, 621889, 953857, 113460: one entry, looked. */
  private static void byHand() {
    SlipTrees x = new SlipTrees();
    x.thing(1, 2, 3, 4, 0, 0);
    world(x, 0, 2, 1, 1, 1, 5);
    Tapes.law(x, "look 7 if year = 0 and thing = 0 and not ghost");
    world(x, 0, 2, 1, 1, 1, 7);
  }

  /** Draws as the document tells them, apart from all else. */
  private static final class Draws {
    private long s;

    Draws(int seed) {
      s = seed;
    }

    int next(int n) {
      s = (s * 1103 + 12345) % 1000003;
      return (int) (s % n);
    }
  }

  /** With one thing and two papers: how many entries there are and how many were looked, for many seeds. */
  private static void oneThing() {
    SlipTrees x = new SlipTrees();
    x.thing(9, 9, 9, 9, 9, 1);
    x.thing(1, 2, 3, 4, 0, 0);
    x.thing(9, 9, 9, 9, 9, 1);
    for (int seed = 0; seed < 60; seed++) {
      Draws d = new Draws(seed * 16667);
      int entries = 0;
      int looked = 0;
      d.next(2);
      if (d.next(3) != 0) {
        entries++;
        looked++;
        slip(d);
      }
      d.next(2);
      if (d.next(3) != 0) {
        boolean looks = d.next(4) == 0 || entries == 0;
        if (!looks) {
          d.next(1);
        }
        entries++;
        looked += looks ? 1 : 0;
      }
      due("entries of seed " + seed, x.world(seed * 16667, 2, 0), entries);
      due("looked of seed " + seed, x.world(seed * 16667, 2, 2), looked);
    }
  }

  private static void slip(Draws d) {
    if (d.next(6) == 0) {
      d.next(4);
      d.next(10000);
    }
  }

  /**
   * One thing in eight papers by its draws alone, where nothing may be lifted and a slip costs what the
   * field's last three digits are: the sum tells what each field has become.
   */
  private static void fields() {
    SlipTrees x = new SlipTrees();
    int[] right = {9876, 1950, 4321, 7};
    x.thing(right[0], right[1], right[2], right[3], 0, 0);
    Tapes.law(x, "look 0;bar;slip to-to/1000*1000");
    for (int seed = 0; seed < 40; seed++) {
      Draws d = new Draws(seed * 25000 + 7);
      int[][] having = new int[8][];
      int many = 0;
      int sum = 0;
      for (int paper = 0; paper < 8; paper++) {
        d.next(2);
        if (d.next(3) == 0) {
          continue;
        }
        boolean looks = paper == 0 || d.next(4) == 0 || many == 0;
        int[] fields = (looks ? right : having[d.next(many)]).clone();
        if (d.next(6) == 0) {
          int field = d.next(4);
          fields[field] = (fields[field] * 7 + d.next(10000)) % 10000;
        }
        having[many] = fields;
        many++;
        for (int field = 0; field < 4; field++) {
          sum += fields[field] == right[field] ? 0 : fields[field] % 1000;
        }
      }
      due("entries by draws", x.world(seed * 25000 + 7, 8, 0), many);
      due("sum by draws", x.world(seed * 25000 + 7, 8, 3), sum);
    }
  }

  /** If looking costs nothing, all is looked; if it is dear, all that may be is lifted. */
  private static void tried() {
    SlipTrees x = new SlipTrees();
    for (int t = 0; t < 8; t++) {
      x.thing(t, 100 * t, 7, 7, t, 0);
    }
    Tapes.law(x, "look 0;slip 0");
    for (int seed = 0; seed < 20; seed++) {
      due("right, all looked", x.world(seed, 8, 1), x.world(seed, 8, 2));
      due("sum, all looked", x.world(seed, 8, 3), 0);
    }
    Tapes.law(x, "look 1;slip 0;open 1000");
    for (int seed = 0; seed < 20; seed++) {
      due("each look once", x.world(seed, 8, 3), x.world(seed, 8, 0));
    }
    Tapes.law(x, "bar;look 10");
    for (int seed = 0; seed < 20; seed++) {
      due("barred: right", x.world(seed, 8, 1), x.world(seed, 8, 2));
      due("barred: sum", x.world(seed, 8, 3), 10 * x.world(seed, 8, 0));
    }
  }

  /** Worlds by the plain writing of the document, many ways. */
  private static void compared() {
    String[] laws = {"slip 9", "slip 4 if near or swap;slip 30-field if drop", "open 1 if kin;bar if years > 4",
        "look 3+thing+year;slip to/100 if to > from", "look 20 if claim > 3;open years*2"};
    SlipTrees x = new SlipTrees();
    Plain y = new Plain();
    for (int t = 0; t < 8; t++) {
      x.thing(t * 1111, 1950 + t, t, 300 - t, t, t == 2 ? 1 : 0);
      y.thing(t * 1111, 1950 + t, t, 300 - t, t, t == 2 ? 1 : 0);
      if (t < laws.length) {
        Tapes.law(x, laws[t]);
        laws[t].chars().forEach(c -> y.tape.add(c));
        y.law();
      }
      for (int papers = 2; papers <= 8; papers += 2) {
        for (int what = 0; what < 4; what++) {
          int seed = (t * 7919 + papers * 104729) % 1000001;
          due("world(" + seed + ", " + papers + ", " + what + ")", x.world(seed, papers, what),
              y.world(seed, papers, what));
        }
      }
    }
  }

  /** A world leaves all that was told as it was. */
  private static void apart() {
    SlipTrees x = new SlipTrees();
    x.thing(1, 2, 3, 4, 0, 0);
    x.paper(5, 0, 0);
    x.paper(6, 0, 0);
    x.entry(0, 0, 1, 2, 3, 5, 0);
    x.entry(1, 0, 1, 2, 3, 5, 0);
    due("tree", x.tree(0, 0), 14 + 3);
    int entries = x.world(77, 8, 0);
    int sum = x.world(77, 8, 3);
    due("tree then", x.tree(0, 0), 14 + 3);
    due("judge then", x.judge(1, 0, 0), 14);
    due("from then", x.from(1, 0), 0);
    due("entries then", x.count(2), 2);
    due("papers then", x.count(1), 2);
    due("the world again", x.world(77, 8, 0), entries);
    due("its sum again", x.world(77, 8, 3), sum);
    SlipTrees y = new SlipTrees();
    y.thing(1, 2, 3, 4, 0, 0);
    due("papers told are of no matter", y.world(77, 8, 3), sum);
  }

  private static void wrong() {
    SlipTrees x = new SlipTrees();
    due("without things", x.world(0, 2, 0), -1);
    x.thing(1, 1, 1, 1, 1, 1);
    due("with a ghost alone", x.world(0, 2, 0), -1);
    x.thing(1, 1, 1, 1, 1, 0);
    due("with a thing", x.world(0, 2, 2), 1);
    due("seed -1", x.world(-1, 2, 0), -1);
    due("seed 1000001", x.world(1_000_001, 2, 0), -1);
    due("seed max", x.world(Integer.MAX_VALUE, 2, 0), -1);
    due("papers 1", x.world(0, 1, 0), -1);
    due("papers 9", x.world(0, 9, 0), -1);
    due("papers min", x.world(0, Integer.MIN_VALUE, 0), -1);
    due("what -1", x.world(0, 2, -1), -1);
    due("what 4", x.world(0, 2, 4), -1);
    CHECK.so("seed 1000000", x.world(1_000_000, 8, 0) >= 0);
    due("status", x.status(), 0);
    due("count of -1", x.count(5), 0);
  }

  public static void main(String[] args) {
    byHand();
    oneThing();
    fields();
    tried();
    compared();
    apart();
    wrong();
    CHECK.end();
  }
}
