/** Terms III on TREE, LOOKERS, MENDED, BIRTHS, DRIFT, WEIGHT, and promises 18 to 22, sentence by sentence. */
public final class EdgeTreeTest {
  private static final Edge EDGE = new Edge("EdgeTreeTest");
  private static final int MIN = Integer.MIN_VALUE;
  private static final int MAX = Integer.MAX_VALUE;

  private static void says(String words) {
    EDGE.says(words);
  }

  private static void due(String what, long got, long want) {
    EDGE.due(what, got, want);
  }

  /** Things that are right with 1000 in each field, of claim 5; the last ones are ghosts. */
  private static SlipTrees things(int many, int ghosts) {
    SlipTrees x = new SlipTrees();
    for (int t = 0; t < many + ghosts; t++) {
      x.thing(1000, 1000, 1000, 1000, 5, t < many ? 0 : 1);
    }
    return x;
  }

  private static int right(SlipTrees x, int paper, int thing) {
    return x.entry(paper, thing, 1000, 1000, 1000, 1000, 5);
  }

  private static int wrong(SlipTrees x, int paper, int thing, int value) {
    return x.entry(paper, thing, value, value, value, value, 5);
  }

  private static void tree(String what, SlipTrees x, int day, int... want) {
    for (int i = 0; i < 6; i++) {
      due(what + ": tree(" + day + ", " + i + ")", x.tree(day, i), want[i]);
    }
  }

  // TREE.

  private static void together() {
    says("TREE: all SEEN PAPERS' LEASTS together.");
    tree("nothing told", new SlipTrees(), 0, 0, 0, 0, 0, 0, 0);
    tree("nothing told", new SlipTrees(), 99, 0, 0, 0, 0, 0, 0);
    SlipTrees x = things(1, 1);
    x.paper(1, 0, 0);
    tree("a paper with an empty list", x, 0, 0, 0, 0, 0, 0, 0);
    for (int p = 1; p < 16; p++) {
      x.paper(1 + p, 0, 5 * p);
    }
    for (int p = 0; p < 16; p++) {
      wrong(x, p, 0, 7);
      wrong(x, p, 1, 7);
    }
    for (int p = 0; p < 16; p++) {
      int day = 5 * p;
      tree("each seen later", x, day, 41 + 20 + 3 * p, 1, 2 * p, 1, 0, 0);
      tree("each seen later", x, day + 4, 41 + 20 + 3 * p, 1, 2 * p, 1, 0, 0);
    }
    tree("the last day", x, 99, 41 + 20 + 45, 1, 30, 1, 0, 0);
    tree("the first day again", x, 0, 61, 1, 0, 1, 0, 0);
  }

  private static void promiseTree() {
    says("its sum (what 0), LOOKED (1), LIFTED (2), BORN ENTRIES (3), MENDED (4), WRONG AGAIN (5). NONE.");
    SlipTrees x = things(2, 1);
    x.paper(1, 0, 0);
    x.paper(2, 0, 0);
    wrong(x, 0, 0, 7);
    wrong(x, 0, 2, 7);
    x.entry(1, 0, 1000, 1000, 7, 7, 5);
    wrong(x, 1, 2, 7);
    right(x, 1, 1);
    right(x, 1, 2);
    Tapes.law(x, "look 500;slip 3");
    tree("each of these", x, 0, 512 + 20 + 3 + 6 + 500 + 12, 2, 3, 1, 2 + 4, 0);
    for (int what : new int[] {-1, 6, MIN, MAX}) {
      due("what " + what, x.tree(0, what), -1);
      due("what " + what + " where nothing is told", new SlipTrees().tree(0, what), -1);
    }
    for (int day : new int[] {-1, 100, MIN, MAX}) {
      due("day " + day, x.tree(day, 0), -1);
      due("day " + day + " where nothing is told", new SlipTrees().tree(day, 1), -1);
    }
  }

  /** An entry that is lifted by alike cost counts as looked, one of a ghost as born. */
  private static void byLeasts() {
    says("By LEASTS");
    SlipTrees x = things(1, 1);
    x.paper(1, 0, 0);
    x.paper(2, 0, 0);
    for (int p = 0; p < 2; p++) {
      right(x, p, 0);
      right(x, p, 1);
    }
    Tapes.law(x, "look 0;birth 0;open 0");
    tree("all for nothing", x, 0, 0, 2, 0, 2, 0, 0);
    Tapes.law(x, "birth 1");
    tree("a birth that costs", x, 0, 1, 2, 1, 1, 0, 0);
    Tapes.law(x, "look 1;birth 0");
    tree("a look that costs", x, 0, 1, 1, 1, 2, 0, 0);
  }

  // MENDED, WRONG AGAIN.

  /** What an entry (by fields 0: right, else wrong by that) of one paper is to that of an earlier one. */
  private static void mended(int[] was, int[] is, boolean ghost, int mended, int wrong) {
    SlipTrees x = things(ghost ? 0 : 1, ghost ? 1 : 0);
    x.paper(1, 0, 0);
    x.paper(2, 0, 0);
    int[][] both = {was, is};
    for (int p = 0; p < 2; p++) {
      int[] f = new int[4];
      for (int k = 0; k < 4; k++) {
        f[k] = both[p][k] == 0 ? 1000 : both[p][k];
      }
      x.entry(p, 0, f[0], f[1], f[2], f[3], 5);
    }
    Tapes.law(x, "look 900;birth 900;slip 1");
    due("lifted", x.from(1, 0), 0);
    due("mended", x.tree(0, 4), mended);
    due("wrong again", x.tree(0, 5), wrong);
    Tapes.law(x, "bar");
    due("not lifted", x.from(1, 0), -1);
    due("none mended without lifting", x.tree(0, 4), 0);
    due("none wrong again without lifting", x.tree(0, 5), 0);
  }

  private static void mendedAndWrongAgain() {
    says("MENDED is a FIELD of an ENTRY that is LIFTED, right, and not right in that from which it is; WRONG AGAIN the"
        + " other way round.");
    for (boolean ghost : new boolean[] {false, true}) {
      mended(new int[] {0, 0, 0, 0}, new int[] {0, 0, 0, 0}, ghost, 0, 0);
      mended(new int[] {7, 7, 7, 7}, new int[] {7, 7, 7, 7}, ghost, 0, 0);
      mended(new int[] {7, 7, 7, 7}, new int[] {8, 8, 8, 8}, ghost, 0, 0);
      mended(new int[] {7, 7, 7, 7}, new int[] {0, 0, 0, 0}, ghost, 4, 0);
      mended(new int[] {0, 0, 0, 0}, new int[] {7, 7, 7, 7}, ghost, 0, 4);
      mended(new int[] {7, 0, 7, 0}, new int[] {0, 7, 8, 0}, ghost, 1, 1);
      mended(new int[] {0, 7, 7, 7}, new int[] {7, 0, 0, 7}, ghost, 2, 1);
      for (int field = 0; field < 4; field++) {
        int[] one = new int[4];
        one[field] = 7;
        mended(one, new int[4], ghost, 1, 0);
        mended(new int[4], one, ghost, 0, 1);
      }
    }
  }

  // LOOKERS.

  private static void lookers(String what, SlipTrees x, int slack, int day, int least, int most) {
    due(what + ": at least within " + slack, x.lookers(slack, day, 0), least);
    due(what + ": at most within " + slack, x.lookers(slack, day, 1), most);
  }

  /** An entry that is looked, and one that is lifted from it, for so much less than a look. */
  private static SlipTrees dearer(int by) {
    SlipTrees x = things(1, 0);
    x.paper(1, 0, 0);
    x.paper(2, 0, 0);
    right(x, 0, 0);
    right(x, 1, 0);
    Tapes.law(x, "open 0;look " + by);
    return x;
  }

  private static void notAbove() {
    says("of which the sums together are not above the TREE's and SLACK");
    for (int by = 1; by <= 42; by++) {
      SlipTrees x = dearer(by);
      for (int slack = Math.max(0, by - 2); slack <= Math.min(40, by + 1); slack++) {
        lookers("a look dearer by " + by, x, slack, 0, 1, slack >= by ? 2 : 1);
      }
      lookers("a look dearer by " + by, x, 40, 0, 1, by <= 40 ? 2 : 1);
      lookers("a look dearer by " + by, x, 0, 0, 1, 1);
    }
    for (int by = 1; by <= 42; by++) {
      SlipTrees x = dearer(0);
      Tapes.law(x, "open " + by);
      for (int slack = Math.max(0, by - 2); slack <= Math.min(40, by + 1); slack++) {
        lookers("a lift dearer by " + by, x, slack, 0, slack >= by ? 1 : 2, 2);
      }
    }
  }

  private static void slack() {
    says("LOOKERS within told SLACK (0 .. 40)");
    SlipTrees x = dearer(1);
    for (int slack : new int[] {-1, 41, 42, MIN, MAX}) {
      due("at least within " + slack, x.lookers(slack, 0, 0), -1);
      due("at most within " + slack, x.lookers(slack, 0, 1), -1);
    }
    lookers("a look dearer by 1", x, 0, 0, 1, 1);
    lookers("a look dearer by 1", x, 40, 0, 1, 2);
    says("LOOKERS within SLACK as SEEN on a DAY: at least (what 0), at most (1). NONE.");
    for (int what : new int[] {-1, 2, MIN, MAX}) {
      due("what " + what, x.lookers(0, 0, what), -1);
    }
    for (int day : new int[] {-1, 100, MIN, MAX}) {
      due("day " + day, x.lookers(0, day, 0), -1);
    }
    lookers("day 99", x, 0, 99, 1, 1);
    lookers("nothing told", new SlipTrees(), 0, 0, 0, 0);
    lookers("nothing told", new SlipTrees(), 40, 99, 0, 0);
    SlipTrees y = new SlipTrees();
    y.paper(0, 0, 0);
    lookers("an empty list", y, 40, 0, 0, 0);
  }

  /** Ways that cost alike are all among those of no slack, whichever of them is the LEAST. */
  private static void allWays() {
    says("of all ways to choose for all SEEN PAPERS (as above, whatever they cost)");
    SlipTrees x = dearer(3);
    Tapes.law(x, "open 3");
    due("looked by the least", x.tree(0, 1), 2);
    lookers("a lift for as much as a look", x, 0, 0, 1, 2);
    SlipTrees y = things(3, 0);
    for (int p = 0; p < 4; p++) {
      y.paper(p, 0, 0);
    }
    for (int t = 0; t < 3; t++) {
      right(y, t, t);
      right(y, 3, t);
    }
    // Each source of the fourth has one thing: a look less for 3 - 1.
    Tapes.law(y, "look 1;open 3");
    due("sum", y.tree(0, 0), 6);
    lookers("none opened", y, 1, 0, 6, 6);
    lookers("one opened", y, 2, 0, 5, 6);
    lookers("one opened", y, 3, 0, 5, 6);
    lookers("two opened", y, 4, 0, 4, 6);
    lookers("two opened", y, 5, 0, 4, 6);
    lookers("three opened", y, 6, 0, 3, 6);
    lookers("three opened", y, 40, 0, 3, 6);
  }

  /** What must be looked is looked, whatever may be spent; what is opened may be of no use. */
  private static void whateverTheyCost() {
    says("whatever they cost");
    SlipTrees x = things(2, 0);
    x.paper(1, 0, 0);
    x.paper(2, 0, 0);
    right(x, 0, 0);
    right(x, 1, 1);
    Tapes.law(x, "look 0;slip 0;open 0");
    lookers("without a source", x, 40, 0, 2, 2);
    right(x, 1, 0);
    lookers("with one that has one thing", x, 40, 0, 2, 3);
    Tapes.law(x, "look 1000;open 1");
    lookers("a look for 1000", x, 40, 0, 2, 2);
    Tapes.law(x, "slip 500");
    wrong(x, 1, 0, 7);
    due("sum", x.tree(0, 0), 2000 + 1 + 2000);
    lookers("the dearest lift", x, 40, 0, 2, 2);
  }

  private static void sumsTogether() {
    says("the sums together");
    SlipTrees x = things(1, 0);
    for (int p = 0; p < 4; p++) {
      x.paper(p, 0, p == 3 ? 9 : 0);
      right(x, p, 0);
    }
    Tapes.law(x, "open 0;look 50;look 10 if year = 1;look 15 if year = 2;look 5 if year = 3");
    int[] slacks = {0, 4, 5, 9, 10, 14, 15, 19, 20, 24, 25, 29, 30, 40};
    int[] early = {1, 1, 1, 1, 2, 2, 2, 2, 2, 2, 3, 3, 3, 3};
    int[] late = {1, 1, 2, 2, 2, 2, 3, 3, 3, 3, 3, 3, 4, 4};
    for (int i = 0; i < slacks.length; i++) {
      lookers("three seen", x, slacks[i], 8, 1, early[i]);
      lookers("four seen", x, slacks[i], 9, 1, late[i]);
    }
    lookers("three seen, again", x, 40, 8, 1, 3);
  }

  /** Looks of one list that are dearer than lifts by 3, 1, 2, 0, 4: the cheapest of them come first. */
  private static void cheapestFirst() {
    says("are LOOKED at least and at most.");
    SlipTrees x = things(5, 0);
    x.paper(1, 0, 0);
    x.paper(2, 0, 0);
    for (int t = 0; t < 5; t++) {
      right(x, 0, t);
      x.entry(1, t, 7, 1000, 1000, 1000, 5);
    }
    Tapes.law(x, "open 0;slip 10+thing;look 0;look 3 if year = 2 and thing = 0;look 1 if year = 2 and thing = 1");
    Tapes.law(x, "look 2 if year = 2 and thing = 2;look 4 if year = 2 and thing = 4");
    due("sum", x.tree(0, 0), 10 + 11 + 12 + 13 + 14);
    int[] most = {6, 7, 7, 8, 8, 8, 9, 9, 9, 9, 10, 10};
    for (int slack = 0; slack < most.length; slack++) {
      lookers("one after the other", x, slack, 0, 5, most[slack]);
    }
    lookers("all", x, 40, 0, 5, 10);
    SlipTrees y = things(3, 0);
    y.paper(1, 0, 0);
    y.paper(2, 0, 0);
    for (int t = 0; t < 3; t++) {
      y.entry(0, t, 7, 1000, 1000, 1000, 5);
      right(y, 1, t);
    }
    Tapes.law(y, "look 0;open 0;slip 3 if thing = 0;slip 1 if thing = 1;slip 2 if thing = 2");
    due("sum", y.tree(0, 0), 6);
    int[] least = {6, 5, 5, 4, 4, 4, 3, 3};
    for (int slack = 0; slack < least.length; slack++) {
      lookers("lifts dearer by 3, 1, 2", y, slack, 0, least[slack], 6);
    }
  }

  private static void ghostsApart() {
    says("how many ENTRIES (GHOSTS' apart) are LOOKED at least and at most.");
    SlipTrees x = things(1, 1);
    x.paper(1, 0, 0);
    x.paper(2, 0, 0);
    for (int p = 0; p < 2; p++) {
      right(x, p, 1);
      right(x, p, 1);
    }
    lookers("ghosts alone", x, 0, 0, 0, 0);
    lookers("ghosts alone", x, 40, 0, 0, 0);
    right(x, 1, 0);
    lookers("and one that is none", x, 40, 0, 1, 1);
    right(x, 0, 0);
    due("sum", x.tree(0, 0), 40 + 5 + 3);
    lookers("and its source", x, 4, 0, 1, 1);
    lookers("and its source", x, 5, 0, 1, 2);
    Tapes.law(x, "birth 0");
    due("sum", x.tree(0, 0), 0 + 5 + 3);
    lookers("births for nothing: none need be opened", x, 1, 0, 1, 1);
    lookers("births for nothing: none need be opened", x, 2, 0, 1, 2);
  }

  private static void mostLookers() {
    says("ENTRIES 0 .. 119 (120 at most)");
    SlipTrees x = things(1, 0);
    for (int p = 0; p < 10; p++) {
      x.paper(p, 0, 0);
    }
    for (int i = 0; i < 120; i++) {
      right(x, i / 12, 0);
    }
    Tapes.law(x, "look 0");
    lookers("all look for nothing", x, 0, 0, 120, 120);
    lookers("one list lifts for 3", x, 3, 0, 108, 120);
    lookers("nine lists lift for 27", x, 40, 0, 12, 120);
    Tapes.law(x, "look 1;open 0");
    lookers("a look for 1", x, 0, 0, 12, 12);
    lookers("a look for 1", x, 1, 0, 12, 13);
    lookers("a look for 1", x, 40, 0, 12, 52);
  }

  // BIRTHS.

  private static void births() {
    says("BIRTHS of a GHOST: ENTRIES of it that are BORN.");
    SlipTrees x = things(1, 3);
    for (int p = 0; p < 4; p++) {
      x.paper(p, 0, 10 * p);
    }
    right(x, 0, 0);
    wrong(x, 0, 1, 7);
    wrong(x, 0, 1, 7);
    wrong(x, 1, 1, 7);
    wrong(x, 2, 1, 8);
    wrong(x, 3, 2, 8);
    due("of the first ghost on 0", x.births(1, 0, -1), 2);
    due("the first", x.births(1, 0, 0), 1);
    due("the second", x.births(1, 0, 1), 2);
    due("on 10, one lifted", x.births(1, 10, -1), 2);
    due("on 20, one born", x.births(1, 20, -1), 3);
    due("the third", x.births(1, 20, 2), 4);
    due("of the second ghost on 29", x.births(2, 29, -1), 0);
    due("of the second ghost on 30", x.births(2, 30, -1), 1);
    due("which", x.births(2, 30, 0), 5);
    due("of the third ghost", x.births(3, 99, -1), 0);
    due("which", x.births(3, 99, 0), -1);
    says("how many (i NONE), the i-th ENTRY. NONE (no GHOST, too).");
    for (int i : new int[] {3, 4, 119, 120, -2, MIN, MAX}) {
      due("i " + i, x.births(1, 20, i), -1);
    }
    for (int thing : new int[] {0, -1, 4, 7, 8, MIN, MAX}) {
      due("no ghost " + thing, x.births(thing, 20, -1), -1);
      due("no ghost " + thing, x.births(thing, 20, 0), -1);
    }
    for (int day : new int[] {-1, 100, MIN, MAX}) {
      due("day " + day, x.births(1, day, -1), -1);
      due("day " + day, x.births(1, day, 0), -1);
    }
    due("where nothing is told", new SlipTrees().births(0, 0, -1), -1);
  }

  private static void bornLater() {
    says("BIRTHS of a GHOST as SEEN on a DAY");
    SlipTrees x = things(0, 1);
    x.paper(5, 0, 0);
    x.paper(1, 0, 50);
    wrong(x, 0, 0, 7);
    wrong(x, 1, 0, 7);
    due("one born", x.births(0, 49, -1), 1);
    due("the later paper", x.births(0, 49, 0), 0);
    due("one born still", x.births(0, 50, -1), 1);
    due("the earlier paper, seen later", x.births(0, 50, 0), 1);
    due("born on 49", x.births(0, 49, 0), 0);
  }

  // DRIFT.

  private static void drift() {
    says("DRIFT: of an ENTRY that is LIFTED its CLAIM less that from which it is; of one LOOKED less the THING's;"
        + " of one BORN 0.");
    int[][] claims = {{5, 5, 5}, {0, 9, 0}, {9, 0, 9}, {3, 4, 6}, {9, 9, 0}, {0, 0, 9}};
    for (int[] c : claims) {
      for (int ghost = 0; ghost < 2; ghost++) {
        SlipTrees x = new SlipTrees();
        x.thing(1000, 1000, 1000, 1000, c[0], ghost);
        x.paper(1, 0, 0);
        x.paper(2, 0, 9);
        x.entry(0, 0, 7, 7, 7, 7, c[1]);
        x.entry(1, 0, 7, 7, 7, 7, c[2]);
        due(ghost == 0 ? "looked" : "born", x.drift(0, 0), ghost == 0 ? c[1] - c[0] : 0);
        due("lifted", x.drift(1, 9), c[2] - c[1]);
        due("not seen", x.drift(1, 8), -100);
        Tapes.law(x, "bar");
        due("not lifted", x.drift(1, 9), ghost == 0 ? c[2] - c[0] : 0);
      }
    }
    says("DRIFT of an ENTRY as SEEN on a DAY; NOTHING (-100) without.");
    SlipTrees x = things(1, 0);
    x.paper(0, 0, 0);
    right(x, 0, 0);
    for (int none : new int[] {-1, 1, 119, 120, MIN, MAX}) {
      due("no entry " + none, x.drift(none, 0), -100);
    }
    for (int day : new int[] {-1, 100, MIN, MAX}) {
      due("no day " + day, x.drift(0, day), -100);
    }
    due("where nothing is told", new SlipTrees().drift(0, 0), -100);
  }

  // WEIGHT.

  private static void weight() {
    says("WEIGHT of an ENTRY: how many come from it, directly or not.");
    SlipTrees x = things(1, 0);
    // Paper 0 is looked; 1 and 2 lift from it; 3 from 1; 4 and 5 from 3; 6 is looked again.
    int[] years = {1, 2, 2, 3, 4, 5, 6};
    int[][] fields = {{7, 7, 7, 7}, {7, 7, 7, 8}, {7, 7, 9, 7}, {7, 7, 6, 8}, {7, 5, 6, 8}, {4, 7, 6, 8},
        {1000, 1000, 1000, 1000}};
    int[] from = {-1, 0, 0, 1, 3, 3, -1};
    int[] weights = {5, 3, 0, 2, 0, 0, 0};
    for (int p = 0; p < years.length; p++) {
      x.paper(years[p], 0, p == 3 ? 60 : p);
      x.entry(p, 0, fields[p][0], fields[p][1], fields[p][2], fields[p][3], 5);
    }
    for (int e = 0; e < from.length; e++) {
      due("from of " + e, x.from(e, 60), from[e]);
      due("weight of " + e, x.weight(e, 60), weights[e]);
    }
    due("on 0", x.weight(0, 0), 0);
    due("on 1", x.weight(0, 1), 1);
    due("on 2", x.weight(0, 2), 2);
    due("on 4, without the fourth", x.from(4, 4), 1);
    due("the second's", x.weight(1, 4), 1);
    due("the first's", x.weight(0, 4), 3);
    due("on 5", x.weight(1, 5), 2);
    due("on 59", x.weight(0, 59), 4);
    says("WEIGHT of an ENTRY as SEEN on a DAY; NONE.");
    due("not seen", x.weight(3, 59), -1);
    due("not seen", x.weight(1, 0), -1);
    for (int none : new int[] {-1, 7, 119, 120, MIN, MAX}) {
      due("no entry " + none, x.weight(none, 60), -1);
    }
    for (int day : new int[] {-1, 100, MIN, MAX}) {
      due("no day " + day, x.weight(0, day), -1);
    }
    due("where nothing is told", new SlipTrees().weight(0, 0), -1);
  }

  /** Papers told in the other order of their years: the first entry comes from the last one. */
  private static void lastIsFirst() {
    says("how many come from it");
    SlipTrees x = things(1, 0);
    for (int p = 0; p < 3; p++) {
      x.paper(9 - p, 0, 0);
      wrong(x, p, 0, 7);
    }
    Tapes.law(x, "bar if years = 2");
    for (int e = 0; e < 3; e++) {
      due("from of " + e, x.from(e, 0), e < 2 ? e + 1 : -1);
      due("weight of " + e, x.weight(e, 0), e);
    }
  }

  private static void longestWay() {
    says("directly or not");
    SlipTrees x = things(1, 0);
    for (int p = 0; p < 16; p++) {
      x.paper(p, 0, 0);
      for (int i = 0; i < (p == 15 ? 12 : 1); i++) {
        wrong(x, p, 0, 7);
      }
    }
    Tapes.law(x, "bar if not years = 1;look 900");
    for (int p = 0; p < 15; p++) {
      due("weight of " + p, x.weight(p, 0), 14 - p + 12);
    }
    due("weight of the last", x.weight(26, 0), 0);
  }

  public static void main(String[] args) {
    together();
    promiseTree();
    byLeasts();
    mendedAndWrongAgain();
    notAbove();
    slack();
    allWays();
    whateverTheyCost();
    sumsTogether();
    cheapestFirst();
    ghostsApart();
    mostLookers();
    births();
    bornLater();
    drift();
    weight();
    lastIsFirst();
    longestWay();
    EDGE.end();
  }
}
