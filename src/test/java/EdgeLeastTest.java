/** Terms III on SEEN, SOURCES, COST, LEAST, and promises 14 to 17, sentence by sentence. */
public final class EdgeLeastTest {
  private static final Edge EDGE = new Edge("EdgeLeastTest");
  private static final int MIN = Integer.MIN_VALUE;
  private static final int MAX = Integer.MAX_VALUE;

  private static void says(String words) {
    EDGE.says(words);
  }

  private static void due(String what, long got, long want) {
    EDGE.due(what, got, want);
  }

  /** Things that are right with 1000 in each field; the last ones are ghosts. */
  private static SlipTrees things(int many, int ghosts) {
    SlipTrees x = new SlipTrees();
    for (int t = 0; t < many + ghosts; t++) {
      x.thing(1000, 1000, 1000, 1000, 5, t < many ? 0 : 1);
    }
    return x;
  }

  /** An entry that has a value in its first so many fields, and is right in the others. */
  private static int entry(SlipTrees x, int paper, int thing, int many, int value) {
    return x.entry(paper, thing, many > 0 ? value : 1000, many > 1 ? value : 1000, many > 2 ? value : 1000,
        many > 3 ? value : 1000, 5);
  }

  private static void least(String what, SlipTrees x, int paper, int sum, int sources, int bits) {
    due(what + ": sum", x.least(paper, 99, 0), sum);
    due(what + ": sources", x.least(paper, 99, 1), sources);
    due(what + ": bits", x.least(paper, 99, 2), bits);
  }

  // SEEN.

  private static void seen() {
    says("As SEEN on a DAY: PAPERS that are SEEN by then.");
    for (int day : new int[] {0, 1, 50, 98, 99}) {
      SlipTrees x = things(1, 0);
      x.paper(1, 0, 0);
      x.paper(2, 0, day);
      int a = entry(x, 0, 0, 0, 0);
      int b = entry(x, 1, 0, 1, 7);
      for (int d = Math.max(0, day - 1); d <= Math.min(99, day + 1); d++) {
        boolean is = d >= day;
        String what = "seen from " + day + ", on " + d;
        due(what + ": least", x.least(1, d, 0), is ? 12 : -1);
        due(what + ": how many sources", x.least(1, d, 1), is ? 1 : -1);
        due(what + ": bits", x.least(1, d, 2), is ? 1 : -1);
        due(what + ": source", x.source(1, d, 0), is ? 0 : -1);
        due(what + ": from", x.from(b, d), is ? a : -2);
        due(what + ": judge", x.judge(1, 0, d), is ? 14 : -1);
        due(what + ": tree", x.tree(d, 0), is ? 17 : 5);
        due(what + ": lifted", x.tree(d, 2), is ? 1 : 0);
        due(what + ": wrong again", x.tree(d, 5), is ? 1 : 0);
        due(what + ": lookers at most", x.lookers(40, d, 1), is ? 2 : 1);
        due(what + ": drift", x.drift(b, d), is ? 0 : -100);
        due(what + ": weight", x.weight(b, d), is ? 0 : -1);
        due(what + ": the other's weight", x.weight(a, d), is ? 1 : 0);
        due(what + ": alike", x.alike(b, d), is ? 1 : 0);
      }
    }
  }

  private static void noDay() {
    says("SEEN from a DAY 0 .. 99 on");
    SlipTrees x = things(1, 1);
    x.paper(1, 0, 0);
    x.paper(2, 0, 99);
    entry(x, 0, 0, 0, 0);
    entry(x, 1, 0, 0, 0);
    entry(x, 0, 1, 0, 0);
    for (int day : new int[] {-1, 100, 101, MIN, MAX}) {
      for (int paper = 0; paper < 2; paper++) {
        for (int what = 0; what <= 2; what++) {
          due("least on " + day, x.least(paper, day, what), -1);
        }
        due("source on " + day, x.source(paper, day, 0), -1);
        due("judge on " + day, x.judge(paper, 0, day), -1);
        due("from on " + day, x.from(paper, day), -2);
        due("drift on " + day, x.drift(paper, day), -100);
        due("weight on " + day, x.weight(paper, day), -1);
        due("alike on " + day, x.alike(paper, day), -1);
      }
      for (int what = 0; what <= 5; what++) {
        due("tree on " + day, x.tree(day, what), -1);
      }
      due("lookers on " + day, x.lookers(0, day, 0), -1);
      due("births on " + day, x.births(1, day, -1), -1);
    }
    due("least on 99", x.least(1, 99, 0), 3);
  }

  // SOURCES.

  private static void yearAhead() {
    says("SOURCES of a PAPER: of those SEEN PAPERS of a YEAR ahead of its own");
    int[] years = {199, 200, 201, 0, 399, 198};
    SlipTrees x = things(1, 0);
    for (int p = 0; p < years.length; p++) {
      x.paper(years[p], 0, 0);
      entry(x, p, 0, 0, 0);
    }
    due("of year 200", x.least(1, 0, 1), 3);
    due("its first", x.source(1, 0, 0), 0);
    due("its second", x.source(1, 0, 1), 3);
    due("its third", x.source(1, 0, 2), 5);
    due("its fourth", x.source(1, 0, 3), -1);
    due("of year 0", x.least(3, 0, 1), 0);
    due("of year 399", x.least(4, 0, 1), 5);
    due("of year 198", x.least(5, 0, 1), 1);
    due("its first", x.source(5, 0, 0), 3);
    SlipTrees y = things(1, 0);
    for (int p = 0; p < 3; p++) {
      y.paper(7, 0, 0);
      entry(y, p, 0, 0, 0);
      due("of one year", y.least(p, 0, 1), 0);
    }
    due("each looks", y.tree(0, 0), 15);
  }

  private static void ofThoseSeen() {
    says("of those SEEN PAPERS");
    SlipTrees x = things(1, 0);
    int[] seen = {30, 20, 10, 0};
    for (int p = 0; p < 4; p++) {
      x.paper(p, 0, seen[p]);
      entry(x, p, 0, 0, 0);
    }
    int[] days = {0, 9, 10, 19, 20, 29, 30, 99};
    int[] sources = {0, 0, 1, 1, 2, 2, 3, 3};
    int[] first = {-1, -1, 2, 2, 1, 1, 0, 0};
    for (int i = 0; i < days.length; i++) {
      due("how many on " + days[i], x.least(3, days[i], 1), sources[i]);
      due("the first on " + days[i], x.source(3, days[i], 0), first[i]);
      due("the lowest of alike ones on " + days[i], x.least(3, days[i], 2), sources[i] == 0 ? 0 : 1);
      due("from on " + days[i], x.from(3, days[i]), first[i]);
      due("sum on " + days[i], x.least(3, days[i], 0), sources[i] == 0 ? 5 : 3);
    }
    due("the first day again", x.from(3, 0), -1);
  }

  private static void noBar() {
    says("for which no \"bar\" HOLDS");
    String[] laws = {"bar", "bar if kin;bar if not kin", "bar if years=1;bar if years=2", "bar if 1/0=1", "bar if kin",
        "bar if years=1 and kin", "bar if year=2;bar if ghost", "bar if years=1;bar if 1=2", "look 7"};
    int[] sources = {0, 0, 0, 2, 1, 2, 0, 1, 2};
    int[] first = {-1, -1, -1, 0, 1, 0, -1, 0, 0};
    for (int i = 0; i < laws.length; i++) {
      SlipTrees x = things(1, 0);
      x.paper(0, 3, 0);
      x.paper(1, 4, 0);
      x.paper(2, 3, 0);
      for (int p = 0; p < 3; p++) {
        entry(x, p, 0, 0, 0);
      }
      due("how many ahead of " + laws[i], x.least(2, 0, 1), 2);
      Tapes.law(x, laws[i]);
      due("how many by " + laws[i], x.least(2, 0, 1), sources[i]);
      due("the first by " + laws[i], x.source(2, 0, 0), first[i]);
      Tapes.law(x, "look 7");
      due("how many by " + laws[i] + ", a later text", x.least(2, 0, 1), sources[i]);
    }
  }

  private static void aThingToo() {
    says("which have an ENTRY of a THING that it has, too");
    SlipTrees x = things(3, 1);
    for (int p = 0; p < 6; p++) {
      x.paper(p, 0, 0);
    }
    entry(x, 0, 2, 0, 0);
    entry(x, 1, 2, 0, 0);
    entry(x, 1, 1, 0, 0);
    entry(x, 3, 3, 0, 0);
    entry(x, 4, 0, 0, 0);
    entry(x, 5, 0, 0, 0);
    due("the one with its thing", x.least(5, 0, 1), 1);
    due("which", x.source(5, 0, 0), 4);
    entry(x, 5, 1, 0, 0);
    due("with another thing", x.least(5, 0, 1), 2);
    due("which", x.source(5, 0, 0), 1);
    entry(x, 5, 3, 0, 0);
    due("with a ghost", x.least(5, 0, 1), 3);
    due("which", x.source(5, 0, 1), 3);
    due("an empty list is none", x.source(5, 0, 2), 4);
    due("an empty list has none", x.least(2, 0, 1), 0);
    due("of other things, though alike", x.from(4, 0), -1);
    SlipTrees y = things(2, 0);
    y.paper(0, 0, 0);
    y.paper(1, 0, 0);
    for (int i = 0; i < 12; i++) {
      entry(y, 0, i < 11 ? 0 : 1, 0, 0);
    }
    entry(y, 1, 1, 0, 0);
    due("by the last of a full list", y.least(1, 0, 1), 1);
    due("from it", y.from(12, 0), 11);
  }

  private static void firstNine() {
    says("the first 9.");
    for (int many = 8; many <= 15; many++) {
      SlipTrees x = things(1, 0);
      for (int p = 0; p < many; p++) {
        x.paper(100 - p, 0, 0);
        entry(x, p, 0, p == 9 ? 4 : 3, 7);
      }
      x.paper(399, 0, 0);
      int e = entry(x, many, 0, 4, 7);
      due("how many of " + many, x.least(many, 0, 1), Math.min(9, many));
      due("the eighth of " + many, x.source(many, 0, 7), 7);
      due("the ninth of " + many, x.source(many, 0, 8), many > 8 ? 8 : -1);
      due("the tenth of " + many, x.source(many, 0, 9), -1);
      due("the tenth, though cheaper, is none", x.least(many, 0, 0), 3 + 9);
      due("from the first", x.from(e, 0), 0);
      due("judge by all", x.judge(many, (1 << Math.min(9, many)) - 1, 0), 3 * Math.min(9, many) + 9);
      due("judge by more", x.judge(many, 1 << Math.min(9, many), 0), -1);
    }
  }

  /** Those that are not seen, barred, of no year ahead, of no thing that it has take none of the nine places. */
  private static void nineOfThose() {
    says("the first 9.");
    SlipTrees x = things(2, 0);
    x.paper(200, 0, 0);
    int e = entry(x, 0, 0, 4, 7);
    x.paper(1, 0, 60);
    x.paper(2, 7, 0);
    x.paper(200, 0, 0);
    x.paper(300, 0, 0);
    x.paper(3, 0, 0);
    for (int p = 6; p <= 15; p++) {
      x.paper(p, 0, 0);
    }
    for (int p = 1; p <= 15; p++) {
      entry(x, p, p == 5 ? 1 : 0, p == 14 ? 4 : 3, 7);
    }
    Tapes.law(x, "bar if not kin");
    due("how many", x.least(0, 0, 1), 9);
    due("the first", x.source(0, 0, 0), 6);
    due("the ninth", x.source(0, 0, 8), 14);
    due("the cheap ninth", x.from(e, 0), 15 - 1 + 0);
    due("its bit", x.least(0, 0, 2), 256);
    due("on 60: the first", x.source(0, 60, 0), 1);
    due("on 60: the ninth", x.source(0, 60, 8), 13);
    due("on 60: the cheap one is none", x.from(e, 60), 1);
    due("on 59 again", x.from(e, 59), 14);
  }

  // COST.

  private static void looked() {
    says("LOOKED: what \"look\" tells of it, and of each FIELD that is not right what \"slip\" tells");
    for (int wrong = 0; wrong <= 4; wrong++) {
      SlipTrees x = things(1, 0);
      x.paper(1, 0, 0);
      entry(x, 0, 0, wrong, 7);
      due(wrong + " not right", x.least(0, 0, 0), 5 + 9 * wrong);
      Tapes.law(x, "look 70;slip 100+field if from=1000 and to=7");
      due(wrong + " not right, by laws", x.least(0, 0, 0), 70 + 100 * wrong + wrong * (wrong - 1) / 2);
    }
    SlipTrees x = things(1, 0);
    x.paper(1, 0, 0);
    x.entry(0, 0, 1000, 1000, 1000, 1000, 9);
    due("a claim that is not right", x.least(0, 0, 0), 5);
  }

  private static void lifted() {
    says("LIFTED from an ENTRY of the same THING of a SOURCE: of each FIELD that is another one what \"slip\" tells"
        + " (the CLAIM is of no matter)");
    for (int unlike = 0; unlike <= 4; unlike++) {
      SlipTrees x = things(1, 0);
      x.paper(1, 0, 0);
      x.paper(2, 0, 0);
      x.entry(0, 0, 7, 7, 7, 7, 0);
      x.entry(1, 0, unlike > 0 ? 8 : 7, unlike > 1 ? 8 : 7, unlike > 2 ? 8 : 7, unlike > 3 ? 8 : 7, 9);
      due(unlike + " unlike", x.judge(1, 1, 0), unlike < 4 ? 3 + 9 * unlike : 3 + 36);
      Tapes.law(x, "look 900;slip 100+field if from=7 and to=8");
      due(unlike + " unlike, by laws", x.judge(1, 1, 0), 3 + 100 * unlike + unlike * (unlike - 1) / 2);
    }
    SlipTrees x = things(2, 0);
    x.paper(1, 0, 0);
    x.paper(2, 0, 0);
    entry(x, 0, 0, 4, 7);
    entry(x, 0, 1, 0, 7);
    int e = entry(x, 1, 1, 4, 7);
    due("of another thing", x.least(1, 0, 0), 3 + 36);
    due("from", x.from(e, 0), 1);
  }

  private static void born() {
    says("a GHOST's is not LOOKED but BORN: what \"birth\" tells alone.");
    for (int wrong = 0; wrong <= 4; wrong++) {
      SlipTrees x = things(0, 1);
      x.paper(1, 0, 0);
      x.paper(2, 0, 0);
      entry(x, 0, 0, wrong, 7);
      due(wrong + " not right", x.least(0, 0, 0), 20);
      Tapes.law(x, "birth 70;look 1;slip 100");
      due(wrong + " not right, by laws", x.least(0, 0, 0), 70);
      int e = entry(x, 1, 0, 4, 7);
      due("lifted or born", x.least(1, 0, 0), wrong == 4 ? 3 : 70);
      due("from", x.from(e, 0), wrong == 4 ? 0 : -1);
      due("born", x.tree(0, 3), wrong == 4 ? 1 : 2);
      due("looked", x.tree(0, 1), 0);
    }
  }

  // LEAST.

  private static void leastSum() {
    says("the least sum of the COSTS and of what \"open\" tells of each chosen one");
    SlipTrees x = things(2, 0);
    x.paper(1, 0, 0);
    x.paper(2, 0, 0);
    x.paper(9, 0, 0);
    entry(x, 0, 0, 1, 7);
    entry(x, 1, 1, 1, 7);
    entry(x, 2, 0, 1, 7);
    entry(x, 2, 1, 1, 7);
    least("two opened for two", x, 2, 6, 2, 3);
    Tapes.law(x, "open 13 if years=8");
    least("the first for one less than a look", x, 2, 13 + 3, 2, 3);
    Tapes.law(x, "open 14 if years=8");
    least("the first for as much as a look", x, 2, 14 + 3, 2, 2);
    Tapes.law(x, "open 15 if years=8");
    least("the first for more than a look", x, 2, 14 + 3, 2, 2);
    Tapes.law(x, "open 1000");
    least("none", x, 2, 28, 2, 0);
    Tapes.law(x, "open 0");
    least("both for nothing", x, 2, 0, 2, 3);
    x.paper(0, 0, 0);
    least("an empty list", x, 3, 0, 0, 0);
  }

  /** Each of nine sources has a thing of its own; the last one's is opened for more than a look. */
  private static void allChosen() {
    says("of all ways to choose some of its SOURCES and for each ENTRY to be LOOKED (BORN) or LIFTED from an ENTRY of a"
        + " chosen one");
    SlipTrees x = things(5, 3);
    x.paper(399, 0, 0);
    for (int p = 1; p <= 9; p++) {
      x.paper(p, 0, 0);
      entry(x, p, Math.min(p - 1, 7), 4, p);
    }
    for (int i = 0; i < 9; i++) {
      entry(x, 0, Math.min(i, 7), 4, i + 1);
    }
    Tapes.law(x, "birth 50");
    least("all nine", x, 0, 27, 9, 511);
    for (int i = 0; i < 9; i++) {
      due("from", x.from(9 + i, 0), i);
    }
    Tapes.law(x, "open 42 if years = 394");
    least("all but the fifth", x, 0, 24 + 41, 9, 511 - 16);
    Tapes.law(x, "open 40 if years > 393");
    least("the fifth, too", x, 0, 5 * 40 + 12, 9, 511);
    Tapes.law(x, "open 1000");
    least("none", x, 0, 5 * 41 + 4 * 50, 9, 0);
  }

  private static void fewest() {
    says("of alike ones the fewest chosen");
    SlipTrees x = things(2, 0);
    x.paper(1, 0, 0);
    x.paper(2, 0, 0);
    x.paper(3, 0, 0);
    x.paper(9, 0, 0);
    entry(x, 0, 0, 1, 7);
    entry(x, 1, 1, 1, 7);
    entry(x, 2, 0, 1, 7);
    entry(x, 2, 1, 1, 7);
    int a = entry(x, 3, 0, 1, 7);
    int b = entry(x, 3, 1, 1, 7);
    Tapes.law(x, "open 3;open 6 if years=6");
    least("one of bit 4, or two of bits 3", x, 3, 6, 3, 4);
    due("from it", x.from(a, 0), 2);
    due("from it", x.from(b, 0), 3);
    Tapes.law(x, "open 28 if years=6;open 14 if years>6");
    least("none, or one, or two", x, 3, 28, 3, 0);
    due("looked", x.from(a, 0), -1);
    Tapes.law(x, "open 0");
    least("none that is of no use, though for nothing", x, 3, 0, 3, 4);
    Tapes.law(x, "look 0;slip 0");
    least("none at all", x, 3, 0, 3, 0);
  }

  private static void lowestBits() {
    says("then the lowest bits of SOURCES");
    SlipTrees x = things(4, 0);
    for (int p = 0; p < 9; p++) {
      x.paper(100 - p, 0, 0);
      entry(x, p, 0, 1, 7);
    }
    x.paper(300, 0, 0);
    int e = entry(x, 9, 0, 1, 7);
    least("nine alike", x, 9, 3, 9, 1);
    due("from the first", x.from(e, 0), 0);
    Tapes.law(x, "open 4 if years<203");
    least("the fourth to ninth", x, 9, 3, 9, 8);
    due("from the fourth", x.from(e, 0), 3);
    int[][] opens = {{3, 3, 3, 3}, {7, 5, 5, 3}, {4, 3, 4, 5}, {4, 9, 4, 3}, {5, 3, 4, 3}, {3, 4, 5, 4}, {5, 3, 3, 5}};
    int[] bits = {3, 12, 3, 9, 6, 3, 6};
    for (int i = 0; i < opens.length; i++) {
      pairs(opens[i], bits[i]);
    }
  }

  /** The first and third source have one thing of two, the second and fourth the other one. */
  private static void pairs(int[] opens, int bits) {
    SlipTrees x = things(2, 0);
    StringBuilder law = new StringBuilder("look 500");
    int sum = 0;
    for (int p = 0; p < 4; p++) {
      x.paper(p, 0, 0);
      entry(x, p, p % 2, 1, 7);
      law.append(";open ").append(opens[p]).append(" if years=").append(9 - p);
      sum += (bits >> p & 1) == 1 ? opens[p] : 0;
    }
    x.paper(9, 0, 0);
    entry(x, 4, 0, 1, 7);
    entry(x, 4, 1, 1, 7);
    Tapes.law(x, law.toString());
    least(law.toString(), x, 4, sum, 4, bits);
  }

  /** Just the second and third source, or the first and fourth, have all four things: bits 6 are lower than 9. */
  private static void lowestBitsAsANumber() {
    says("then the lowest bits of SOURCES");
    int[][] things = {{0, 1}, {0, 2}, {1, 3}, {2, 3}, {0, 1, 2, 3}};
    SlipTrees x = things(4, 0);
    for (int p = 0; p < 5; p++) {
      x.paper(p, 0, 0);
      for (int t : things[p]) {
        entry(x, p, t, 1, 7);
      }
    }
    Tapes.law(x, "look 500");
    least("two of two", x, 4, 6, 4, 6);
    Tapes.law(x, "open 2 if years=4");
    least("the first and fourth for less", x, 4, 5, 4, 9);
  }

  private static void lookedAhead() {
    says("then, ENTRY by ENTRY, LOOKED ahead of LIFTED");
    SlipTrees x = things(2, 1);
    x.paper(1, 0, 0);
    x.paper(9, 0, 0);
    for (int t = 0; t < 3; t++) {
      entry(x, 0, t, 4, 7);
    }
    int a = entry(x, 1, 0, 4, 7);
    int b = entry(x, 1, 1, 0, 7);
    int g = entry(x, 1, 2, 4, 7);
    Tapes.law(x, "look 36;slip 9;birth 0");
    least("one lifted", x, 1, 3 + 36, 1, 1);
    due("the one", x.from(a, 0), 0);
    due("a look that costs as much", x.from(b, 0), -1);
    due("a birth that costs as much", x.from(g, 0), -1);
    Tapes.law(x, "look 37;birth 1");
    due("a look that costs more", x.from(b, 0), 1);
    due("a birth that costs more", x.from(g, 0), 2);
    Tapes.law(x, "look 35");
    due("a look that costs less", x.from(b, 0), -1);
  }

  private static void lowerSource() {
    says("those from the SOURCE, then ENTRY, with the lower number first, of alike COST.");
    SlipTrees x = things(3, 0);
    x.paper(1, 0, 0);
    x.paper(2, 0, 0);
    x.paper(9, 0, 0);
    int[] second = {entry(x, 1, 2, 1, 7), entry(x, 1, 2, 1, 7), entry(x, 1, 1, 4, 7)};
    int[] first = {entry(x, 0, 0, 4, 7), entry(x, 0, 2, 2, 7), entry(x, 0, 2, 1, 7), entry(x, 0, 2, 1, 7)};
    int a = entry(x, 2, 0, 4, 7);
    int b = entry(x, 2, 1, 4, 7);
    int c = entry(x, 2, 2, 1, 7);
    least("both", x, 2, 6, 2, 3);
    due("by the first alone", x.from(a, 0), first[0]);
    due("by the second alone", x.from(b, 0), second[2]);
    due("the lower source's lowest of alike cost", x.from(c, 0), first[2]);
    Tapes.law(x, "bar if years=8");
    due("the second's lowest of alike cost", x.from(c, 0), second[0]);
    due("looked then", x.from(a, 0), -1);
  }

  private static void openForAll() {
    says("(What \"open\" tells counts for all chosen ones.)");
    SlipTrees x = things(1, 0);
    for (int p = 0; p < 3; p++) {
      x.paper(p, 0, 0);
      entry(x, p, 0, 0, 0);
    }
    x.paper(9, 0, 0);
    entry(x, 3, 0, 0, 0);
    Tapes.law(x, "open years");
    int[] opens = {9, 8, 7};
    for (int bits = 0; bits < 8; bits++) {
      int sum = bits == 0 ? 5 : 0;
      for (int i = 0; i < 3; i++) {
        sum += (bits >> i & 1) == 1 ? opens[i] : 0;
      }
      due("judge by " + bits, x.judge(3, bits, 0), sum);
    }
  }

  // Promises 14 to 17.

  private static void promiseLeast() {
    says("LEAST of a PAPER as SEEN on a DAY: its sum (what 0), how many SOURCES it has (1), the chosen ones as bits of"
        + " these (2). NONE (not SEEN, too).");
    SlipTrees x = things(1, 0);
    int[] years = {9, 9, 1, 2, 3};
    int[] wrong = {4, 4, 2, 3, 0};
    for (int p = 0; p < 5; p++) {
      x.paper(years[p], 0, p == 0 ? 5 : 0);
      entry(x, p, 0, wrong[p], 7);
    }
    least("bits of its sources, not of papers", x, 0, 3 + 9, 3, 2);
    entry(x, 4, 0, 4, 7);
    least("the third", x, 0, 3, 3, 4);
    least("of one without", x, 2, 5 + 18, 0, 0);
    least("one looked, one lifted", x, 4, 3 + 5 + 9, 2, 2);
    least("of one with one", x, 3, 3 + 9, 1, 1);
    for (int what : new int[] {-1, 3, MIN, MAX}) {
      due("what " + what, x.least(1, 0, what), -1);
    }
    for (int what = 0; what <= 2; what++) {
      for (int paper : new int[] {-1, 5, 15, 16, MIN, MAX}) {
        due("no paper " + paper, x.least(paper, 0, what), -1);
      }
      due("not seen", x.least(0, 4, what), -1);
    }
    due("where nothing is told", new SlipTrees().least(0, 0, 0), -1);
  }

  private static void promiseSource() {
    says("The i-th SOURCE of a PAPER as SEEN on a DAY; NONE.");
    SlipTrees x = things(1, 0);
    for (int p = 0; p < 16; p++) {
      x.paper(p, 0, p == 12 ? 5 : 0);
      entry(x, p, 0, 0, 0);
    }
    for (int i = 0; i < 9; i++) {
      due("source " + i, x.source(15, 0, i), i);
    }
    for (int i : new int[] {9, 10, 15, 16, 31, 32, -1, -2, MIN, MAX}) {
      due("source " + i, x.source(15, 0, i), -1);
    }
    due("of one without", x.source(0, 0, 0), -1);
    due("of one not seen", x.source(12, 4, 0), -1);
    for (int paper : new int[] {-1, 16, MIN, MAX}) {
      due("no paper " + paper, x.source(paper, 0, 0), -1);
    }
  }

  private static void promiseFrom() {
    says("From which ENTRY one is as SEEN on a DAY; NONE: LOOKED, BORN; -2 its PAPER is not SEEN, there is none such.");
    SlipTrees x = things(1, 1);
    x.paper(1, 0, 0);
    x.paper(2, 0, 6);
    entry(x, 0, 0, 4, 7);
    entry(x, 0, 1, 4, 7);
    entry(x, 1, 0, 4, 7);
    entry(x, 1, 1, 4, 7);
    int[] want = {-1, -1, 0, 1};
    for (int e = 0; e < 4; e++) {
      due("from(" + e + ", 6)", x.from(e, 6), want[e]);
      due("from(" + e + ", 5)", x.from(e, 5), e < 2 ? -1 : -2);
    }
    for (int none : new int[] {-1, 4, 119, 120, MIN, MAX}) {
      due("from(" + none + ", 6)", x.from(none, 6), -2);
    }
    due("where nothing is told", new SlipTrees().from(0, 0), -2);
    due("no call of it is REFUSED", x.count(6) + x.status(), 0);
  }

  private static void promiseJudge() {
    says("The least sum of a PAPER with just these SOURCES chosen (bits); NONE.");
    SlipTrees x = things(2, 0);
    x.paper(1, 0, 0);
    x.paper(2, 0, 4);
    x.paper(9, 0, 0);
    entry(x, 0, 0, 4, 7);
    entry(x, 1, 0, 4, 8);
    entry(x, 2, 0, 4, 7);
    entry(x, 2, 1, 0, 7);
    int[] want = {5 + 36 + 5, 3 + 5, 3 + 36 + 5, 6 + 5};
    for (int bits = 0; bits < 4; bits++) {
      due("judge by " + bits, x.judge(2, bits, 4), want[bits]);
      due("judge by " + bits + " on 3", x.judge(2, bits, 3), bits < 2 ? want[bits] : -1);
    }
    for (int bits : new int[] {-1, 4, 5, 8, 511, 512, MIN, MAX}) {
      due("judge by " + bits, x.judge(2, bits, 4), -1);
    }
    due("by none of one without", x.judge(0, 0, 4), 41);
    due("by one of one without", x.judge(0, 1, 4), -1);
    due("not seen", x.judge(1, 0, 3), -1);
    for (int paper : new int[] {-1, 3, 16, MIN, MAX}) {
      due("no paper " + paper, x.judge(paper, 0, 4), -1);
    }
    due("an empty list", x.paper(0, 0, 0) + x.judge(3, 0, 4), 3);
    due("least is still its own", x.least(2, 4, 2), 1);
  }

  public static void main(String[] args) {
    seen();
    noDay();
    yearAhead();
    ofThoseSeen();
    noBar();
    aThingToo();
    firstNine();
    nineOfThose();
    looked();
    lifted();
    born();
    leastSum();
    allChosen();
    fewest();
    lowestBits();
    lowestBitsAsANumber();
    lookedAhead();
    lowerSource();
    openForAll();
    promiseLeast();
    promiseSource();
    promiseFrom();
    promiseJudge();
    EDGE.end();
  }
}
