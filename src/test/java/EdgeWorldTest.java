import java.util.ArrayList;
import java.util.List;

/** Terms III on RUN, Terms IV, and promises 25, 26, sentence by sentence. */
public final class EdgeWorldTest {
  private static final Edge EDGE = new Edge("EdgeWorldTest");
  private static final int MIN = Integer.MIN_VALUE;
  private static final int MAX = Integer.MAX_VALUE;

  private static void says(String words) {
    EDGE.says(words);
  }

  private static void due(String what, long got, long want) {
    EDGE.due(what, got, want);
  }

  // RUN.

  /** Papers, seen on the last day alone, with lists of things a .. h. */
  private static SlipTrees lists(String... lists) {
    SlipTrees x = new SlipTrees();
    for (int t = 0; t < 8; t++) {
      x.thing(t, t, t, t, 0, t % 2);
    }
    for (int p = 0; p < lists.length; p++) {
      x.paper(p, 0, 99);
      for (char c : lists[p].toCharArray()) {
        x.entry(p, c - 'a', p, p, p, p, p % 10);
      }
    }
    return x;
  }

  private static void run(String a, String b, int length, int inA, int inB) {
    SlipTrees x = lists(a, b);
    String what = a + " and " + b;
    due("length in " + what, x.run(0, 1, 0), length);
    due("length, the other way, in " + what, x.run(1, 0, 0), length);
    due("place in " + what, x.run(0, 1, 1), inA);
    due("place, the other way, in " + what, x.run(1, 0, 1), inB);
  }

  private static void longestRun() {
    says("the longest row of THINGS that stands in both LISTS, one behind the other");
    run("abc", "abc", 3, 0, 0);
    run("abcd", "bcd", 3, 1, 0);
    run("abhc", "abc", 2, 0, 0);
    run("abc", "cab", 2, 0, 1);
    run("abab", "baba", 3, 0, 0);
    run("aab", "aaab", 3, 0, 1);
    run("abc", "cba", 1, 0, 0);
    run("habcdefg", "abcdhefg", 4, 1, 0);
    run("defhabc", "abcgdef", 3, 0, 0);
    run("ab", "cd", 0, -1, -1);
    run("h", "ghgh", 1, 0, 1);
    run("abcdefghabcd", "abcdefghabcd", 12, 0, 0);
    run("aaaaaaaaaaaa", "aaaaaaaaaaaa", 12, 0, 0);
    run("aaaaaaaaaaab", "baaaaaaaaaaa", 11, 0, 1);
    run("aaaaaaaaaaab", "bdddddddddda", 1, 0, 0);
    run("aaaaaaaaaaab", "cb", 1, 11, 1);
    run("bcda", "ab", 1, 0, 0);
    run("gbgbgbgbgbga", "ag", 1, 0, 0);
    says("where it begins in the first (the first such place).");
    run("abcab", "ab", 2, 0, 0);
    run("cabdab", "dabc", 3, 3, 0);
    run("cabhab", "ab", 2, 1, 0);
    run("ab", "cabhab", 2, 0, 1);
    run("abcdef", "defabc", 3, 0, 0);
    run("hahbhc", "abc", 1, 1, 0);
  }

  private static void promiseRun() {
    says("RUN of two unlike PAPERS: its length (what 0), where it begins in the first (1; NONE of length 0). NONE.");
    run("", "", 0, -1, -1);
    run("", "abc", 0, -1, -1);
    run("a", "", 0, -1, -1);
    run("aceg", "bdfh", 0, -1, -1);
    SlipTrees x = lists("ab", "ab", "");
    due("one paper", x.run(0, 0, 0), -1);
    due("one paper", x.run(1, 1, 1), -1);
    due("one with an empty list", x.run(2, 2, 0), -1);
    for (int none : new int[] {-1, 3, 15, 16, MIN, MAX}) {
      due("no paper " + none, x.run(0, none, 0), -1);
      due("no paper " + none, x.run(none, 0, 1), -1);
      due("no papers " + none, x.run(none, none, 0), -1);
    }
    due("no papers", x.run(-1, -2, 0), -1);
    for (int what : new int[] {-1, 2, MIN, MAX}) {
      due("what " + what, x.run(0, 1, what), -1);
    }
    due("where nothing is told", new SlipTrees().run(0, 1, 0), -1);
  }

  // WORLDS, by the document's words once more.

  private record Made(int paper, int thing, int origin, int[] fields) { }

  /** A world as it is made: the told things' fields (null: a ghost), and what the draws bring. */
  private static final class World {
    final int[][] right;
    final List<Made> entries = new ArrayList<>();
    final int[] kin;
    int looked = 0;
    private long s;

    World(long seed, int papers, int[][] right) {
      this.right = right;
      s = seed;
      kin = new int[papers];
      for (int k = 0; k < papers; k++) {
        kin[k] = draw(2);
        for (int t = 0; t < right.length; t++) {
          if (right[t] != null && draw(3) != 0) {
            make(k, t);
          }
        }
      }
    }

    int draw(int n) {
      s = (s * 1103 + 12345) % 1_000_003;
      return (int) (s % n);
    }

    private void make(int k, int t) {
      List<Integer> having = new ArrayList<>();
      for (int e = 0; e < entries.size(); e++) {
        if (entries.get(e).thing == t) {
          having.add(e);
        }
      }
      boolean looks = k == 0 || draw(4) == 0 || having.isEmpty();
      int origin = looks ? -1 : having.get(draw(having.size()));
      int[] fields = (looks ? right[t] : entries.get(origin).fields).clone();
      if (draw(6) == 0) {
        int field = draw(4);
        fields[field] = (fields[field] * 7 + draw(10000)) % 10000;
      }
      looked += looks ? 1 : 0;
      entries.add(new Made(k, t, origin, fields));
    }
  }

  private static final int[][] SEEDS = {{0, 1, 2, 3, 5, 8, 13, 21, 34, 55, 89, 144, 233, 377, 610, 987},
      {999_984, 999_990, 999_991, 999_992, 999_993, 999_994, 999_995, 999_996, 999_997, 999_998, 999_999, 1_000_000},
      {7_919, 65_535, 65_536, 104_729, 250_000, 333_333, 500_000, 500_001, 666_667, 777_777, 868_686, 912_345},
      // The first, second or third new s of these is 0, 1, 1,000,001 or 1,000,002.
      {870_345, 413_408, 784_216, 327_279, 230_153, 434_557, 764_479, 294_128}};

  /** Tells things: each of four digits all alike by its number, but ghosts where the word says g. */
  private static int[][] tell(SlipTrees x, String things) {
    int[][] right = new int[things.length()][];
    for (int t = 0; t < right.length; t++) {
      boolean ghost = things.charAt(t) == 'g';
      int[] f = {9999 - t, 1950 + t, 10 * t, t == 0 ? 0 : 1111 * t};
      x.thing(f[0], f[1], f[2], f[3], t, ghost ? 1 : 0);
      right[t] = ghost ? null : f;
    }
    return right;
  }

  private static void spans() {
    says("WORLDS are made from a SEED (0 .. 1,000,000) and p PAPERS (2 .. 8)");
    SlipTrees x = new SlipTrees();
    int[][] right = tell(x, "tt");
    for (int papers = 2; papers <= 8; papers++) {
      for (int seed : new int[] {0, 1, 999_999, 1_000_000}) {
        World w = new World(seed, papers, right);
        due("world(" + seed + ", " + papers + ", 0)", x.world(seed, papers, 0), w.entries.size());
        due("world(" + seed + ", " + papers + ", 2)", x.world(seed, papers, 2), w.looked);
      }
    }
    for (int what = 0; what <= 3; what++) {
      for (int seed : new int[] {-1, 1_000_001, 1_000_003, MIN, MAX}) {
        due("seed " + seed, x.world(seed, 8, what), -1);
      }
      for (int papers : new int[] {1, 0, -1, 9, 16, MIN, MAX}) {
        due(papers + " papers", x.world(0, papers, what), -1);
      }
    }
    for (int what : new int[] {-1, 4, MIN, MAX}) {
      due("what " + what, x.world(0, 2, what), -1);
    }
    due("status", x.status(), 0);
    due("papers told", x.count(1), 0);
  }

  private static void thingsTold() {
    says("THINGS are those told (one at least; no GHOSTS are in it).");
    SlipTrees x = new SlipTrees();
    for (int what = 0; what <= 3; what++) {
      due("without things", x.world(0, 2, what), -1);
    }
    for (int t = 0; t < 8; t++) {
      due("with ghosts alone", x.world(0, 2, 0), -1);
      x.thing(1, 1, 1, 1, 1, 1);
    }
    says("NONE (without THINGS that are no GHOSTS, too).");
    due("with eight ghosts alone", x.world(0, 2, 0), -1);
    for (String things : "t tt gt tg gtg tgt ggggtttt tgtgtgtg gggggggt tggggggg tttttttt".split(" ")) {
      SlipTrees y = new SlipTrees();
      int[][] right = tell(y, things);
      for (int seed : SEEDS[2]) {
        World w = new World(seed, 8, right);
        due("entries of " + things + " by " + seed, y.world(seed, 8, 0), w.entries.size());
        due("looked of " + things + " by " + seed, y.world(seed, 8, 2), w.looked);
      }
    }
  }

  private static void draws() {
    says("DRAWS: s becomes (s times 1103 and 12345) modulo 1,000,003, at first s is the SEED; a DRAW of n is the new s"
        + " modulo n.");
    SlipTrees x = new SlipTrees();
    int[][] right = tell(x, "tttgtttt");
    for (int[] seeds : SEEDS) {
      for (int seed : seeds) {
        World w = new World(seed, 8, right);
        due("entries by " + seed, x.world(seed, 8, 0), w.entries.size());
        due("looked by " + seed, x.world(seed, 8, 2), w.looked);
      }
    }
    // By hand: 0 leads to 12345 (kin 1), 628841 (2: in it), 621889 (1: no slip), 953857 (kin 1), 113460 (0: not).
    SlipTrees y = new SlipTrees();
    tell(y, "t");
    due("one entry", y.world(0, 2, 0), 1);
    due("looked", y.world(0, 2, 2), 1);
  }

  /** 311,242 times 1103 and 12345 is 311,242 again: each DRAW of 2, 3, 4, 6 is 0, 1, 2, 4. */
  private static void drawsAllAlike() {
    says("Its LIST: for each THING t in order: a DRAW of 3: at 0 it is not in it; else, if k is 0, or a DRAW of 4 is 0"
        + " (DRAWN if k is not 0 alone), or none of the PAPERS ahead has it: LOOKED: right; else LIFTED: from the PAPER"
        + " that a DRAW of as many as have it tells (of those ahead that have it, in order).");
    SlipTrees x = new SlipTrees();
    tell(x, "tgtt");
    // The lists are lifted from papers 0, 0, 1, 2, 2, 4, 1, but all are right, so that by LEASTS all are from paper 0.
    int[] right = {0, 0, 6, 9, 9, 9, 9, 9, 9};
    for (int papers = 2; papers <= 8; papers++) {
      due("entries of " + papers + " papers", x.world(311_242, papers, 0), 3 * papers);
      due("right of " + papers + " papers", x.world(311_242, papers, 1), right[papers]);
      due("looked of " + papers + " papers", x.world(311_242, papers, 2), 3);
      due("sum of " + papers + " papers", x.world(311_242, papers, 3), 15 + 3 * (papers - 1));
    }
    Tapes.law(x, "bar if not years = 1");
    // From the paper just ahead: those of papers 0 (looked), 1 (from 0), and no others.
    due("right, from the paper ahead", x.world(311_242, 3, 1), 6);
    Tapes.law(x, "bar if year = 2 and years = 2;bar if year = 3 and not years = 2");
    due("the fourth has no source any more", x.world(311_242, 4, 3), 15 + 3 + 3 + 15);
  }

  /** 870,345 leads to 0 (kin), 12345 (0: not in it), 628841 (kin), 621889 (1: in it), 953857 (1, but none has it). */
  private static void aSlipByHand() {
    says("or none of the PAPERS ahead has it: LOOKED: right");
    SlipTrees x = new SlipTrees();
    x.thing(1111, 1111, 1234, 1111, 0, 0);
    Tapes.law(x, "slip to if field = 2 and from = 1234");
    due("entries", x.world(870_345, 2, 0), 1);
    due("right", x.world(870_345, 2, 1), 1);
    due("looked", x.world(870_345, 2, 2), 1);
    says("it becomes it times 7 and a DRAW of 10,000, modulo 10,000");
    // Then 113460 (0: a slip), 158350 (field 2), 671873: 1234 times 7 and 1873 is 10511.
    due("sum", x.world(870_345, 2, 3), 5 + 511);
  }

  /** By how much each entry costs if it is looked alone: look by year and thing, and a slip by what it has become. */
  private static int looks(World w, boolean years, int from) {
    int sum = 0;
    for (Made e : w.entries) {
      sum += years ? 100 * e.paper + 10 * e.thing : 0;
      for (int f = 0; f < 4; f++) {
        int is = e.fields[f];
        if (is != w.right[e.thing][f]) {
          sum += from == 0 ? is % 1000 : from == 1 ? 10 * (is / 1000) + f : from == 2 ? 100 * (f + 1) + e.thing : 0;
        }
      }
    }
    return sum;
  }

  private static void listsMade() {
    says("PAPER k is of YEAR k");
    String[] laws = {"bar;look 100*year+10*thing;slip 0", "look 0;slip to-to/1000*1000", "slip 10*[to/1000]+field",
        "slip 100*[field+1]+thing"};
    SlipTrees x = new SlipTrees();
    int[][] right = tell(x, "ttgttttt");
    for (int law = 0; law < 4; law++) {
      Tapes.law(x, laws[law]);
      if (law == 1) {
        says("Then a DRAW of 6: at 0 a SLIP: FIELD a DRAW of 4, it becomes it times 7 and a DRAW of 10,000, modulo"
            + " 10,000");
      }
      for (int seed : SEEDS[(law + 1) % 4]) {
        for (int papers : new int[] {2, 5, 8}) {
          World w = new World(seed, papers, right);
          due("sum by " + laws[law] + " of " + seed, x.world(seed, papers, 3), looks(w, law == 0, law - 1));
        }
      }
    }
  }

  private static void kins() {
    says("KIN a DRAW of 2");
    SlipTrees x = new SlipTrees();
    int[][] right = tell(x, "ttt");
    Tapes.law(x, "bar if kin;look 1;slip 0;open 0");
    for (int seed : SEEDS[3]) {
      World w = new World(seed, 8, right);
      int sum = 0;
      for (Made e : w.entries) {
        boolean other = w.entries.stream().anyMatch(o -> o.thing == e.thing && o.paper < e.paper
            && w.kin[o.paper] != w.kin[e.paper]);
        sum += other ? 0 : 1;
      }
      due("entries without a source of the other kin, by " + seed, x.world(seed, 8, 3), sum);
    }
  }

  /** With one thing each list has one entry at most; it is lifted from the first one that is nearest. */
  private static void rightOnes() {
    says("RIGHT are ENTRIES that are LOOKED by both, or LIFTED by both from the same ENTRY.");
    SlipTrees x = new SlipTrees();
    int[][] right = tell(x, "t");
    Tapes.law(x, "look 900;open 0");
    int all = 0;
    int wrongly = 0;
    for (int[] seeds : SEEDS) {
      for (int seed : seeds) {
        World w = new World(seed, 8, right);
        int good = 0;
        int sum = 0;
        for (int e = 0; e < w.entries.size(); e++) {
          int nearest = -1;
          for (int o = 0; o < e; o++) {
            boolean nearer = nearest < 0 || unlike(w, o, e) < unlike(w, nearest, e);
            nearest = nearer ? o : nearest;
          }
          good += nearest == w.entries.get(e).origin ? 1 : 0;
          sum += nearest < 0 ? 900 + 9 * wrong(w, e) : 9 * unlike(w, nearest, e);
        }
        all += w.entries.size();
        wrongly += w.entries.size() - good;
        due("right by " + seed, x.world(seed, 8, 1), good);
        due("sum by " + seed, x.world(seed, 8, 3), sum);
      }
    }
    due("some are right, some are not", wrongly > 0 && wrongly < all ? 1 : 0, 1);
  }

  private static int unlike(World w, int a, int b) {
    int unlike = 0;
    for (int f = 0; f < 4; f++) {
      unlike += w.entries.get(a).fields[f] == w.entries.get(b).fields[f] ? 0 : 1;
    }
    return unlike;
  }

  private static int wrong(World w, int e) {
    int wrong = 0;
    for (int f = 0; f < 4; f++) {
      wrong += w.entries.get(e).fields[f] == w.right[0][f] ? 0 : 1;
    }
    return wrong;
  }

  private static void lookedByBoth() {
    says("LOOKED by both");
    SlipTrees x = new SlipTrees();
    int[][] right = tell(x, "tttttttt");
    Tapes.law(x, "look 0;slip 0");
    for (int seed : SEEDS[1]) {
      World w = new World(seed, 8, right);
      due("all looked: right by " + seed, x.world(seed, 8, 1), w.looked);
      due("all looked: sum by " + seed, x.world(seed, 8, 3), 0);
    }
    says("how many ENTRIES it has (what 0), how many are RIGHT (1), LOOKED when it was made (2), TREE's sum (3).");
    Tapes.law(x, "bar;look 10");
    for (int seed : SEEDS[0]) {
      World w = new World(seed, 3, right);
      due("none opened: entries by " + seed, x.world(seed, 3, 0), w.entries.size());
      due("none opened: right by " + seed, x.world(seed, 3, 1), w.looked);
      due("none opened: looked by " + seed, x.world(seed, 3, 2), w.looked);
      due("none opened: sum by " + seed, x.world(seed, 3, 3), 10 * w.entries.size());
    }
  }

  /** A paper that is told, however late it is seen, is none of a world; nor is one of a world left behind. */
  private static void apartFromTold() {
    says("TRIED: LEASTS are found in it by the LAWS (all SEEN)");
    SlipTrees x = new SlipTrees();
    int[][] right = tell(x, "ttt");
    int[] before = new int[4];
    for (int what = 0; what < 4; what++) {
      before[what] = x.world(4711, 8, what);
    }
    due("entries", before[0], new World(4711, 8, right).entries.size());
    for (int p = 0; p < 16; p++) {
      x.paper(p, 0, 99);
      x.entry(p, p % 3, 1, 2, 3, 4, 5);
    }
    int sum = x.tree(99, 0);
    int from = x.from(15, 99);
    int most = x.lookers(40, 99, 1);
    for (int what = 0; what < 4; what++) {
      due("world behind what was told", x.world(4711, 8, what), before[what]);
      x.world(99, 2 + what, what);
      due("tree behind a world", x.tree(99, 0), sum);
      due("from behind a world", x.from(15, 99), from);
      due("lookers behind a world", x.lookers(40, 99, 1), most);
      due("entries behind a world", x.count(2), 16);
      due("papers behind a world", x.count(1), 16);
      due("a list behind a world", x.list(0, -1), 1);
    }
    Tapes.law(x, "look 33;bar");
    due("by a law told later", x.world(4711, 8, 3) >= 33 * before[0] ? 1 : 0, 1);
    due("entries by it", x.world(4711, 8, 0), before[0]);
    due("looked by it", x.world(4711, 8, 2), before[2]);
  }

  public static void main(String[] args) {
    longestRun();
    promiseRun();
    spans();
    thingsTold();
    draws();
    drawsAllAlike();
    aSlipByHand();
    listsMade();
    kins();
    rightOnes();
    lookedByBoth();
    apartFromTold();
    EDGE.end();
  }
}
