/** Promise 19: how many looked, at least and at most, within what may be spent more. */
public final class LookersTest {
  private static final Check CHECK = new Check("LookersTest");

  private static void due(String what, long got, long want) {
    CHECK.due(what, got, want);
  }

  private static void lookers(SlipTrees x, int slack, int day, int least, int most) {
    due("lookers(" + slack + ", " + day + ", 0)", x.lookers(slack, day, 0), least);
    due("lookers(" + slack + ", " + day + ", 1)", x.lookers(slack, day, 1), most);
  }

  private static SlipTrees twoPapers() {
    SlipTrees x = new SlipTrees();
    x.thing(1, 1, 1, 1, 0, 0);
    x.thing(2, 2, 2, 2, 0, 0);
    x.paper(1, 0, 0);
    x.paper(2, 0, 0);
    x.entry(0, 0, 1, 1, 1, 1, 0);
    x.entry(0, 1, 2, 2, 2, 2, 0);
    x.entry(1, 0, 1, 1, 1, 1, 0);
    x.entry(1, 1, 2, 2, 2, 2, 0);
    return x;
  }

  /** The first list is looked, for 10; the second lifted for 3, or one looked for 8, or both for 10. */
  private static void slack() {
    SlipTrees x = twoPapers();
    due("tree", x.tree(0, 0), 13);
    lookers(x, 0, 0, 2, 2);
    lookers(x, 4, 0, 2, 2);
    lookers(x, 5, 0, 2, 3);
    lookers(x, 6, 0, 2, 3);
    lookers(x, 7, 0, 2, 4);
    lookers(x, 40, 0, 2, 4);
  }

  /** Slack is for all papers together. */
  private static void together() {
    SlipTrees x = twoPapers();
    x.paper(3, 0, 5);
    x.entry(2, 0, 1, 1, 1, 1, 0);
    x.entry(2, 1, 2, 2, 2, 2, 0);
    due("tree on 5", x.tree(5, 0), 16);
    lookers(x, 0, 5, 2, 2);
    lookers(x, 5, 5, 2, 3);
    lookers(x, 7, 5, 2, 4);
    lookers(x, 10, 5, 2, 4);
    lookers(x, 11, 5, 2, 4);
    lookers(x, 12, 5, 2, 5);
    lookers(x, 13, 5, 2, 5);
    lookers(x, 14, 5, 2, 6);
    lookers(x, 14, 4, 2, 4);
    lookers(x, 14, 5, 2, 6);
  }

  /** With slack fewer may look, too; and what is cheapest need not be what is chosen. */
  private static void fewer() {
    SlipTrees x = twoPapers();
    Tapes.law(x, "look 1");
    due("tree", x.tree(0, 0), 4);
    lookers(x, 0, 0, 4, 4);
    lookers(x, 1, 0, 2, 4);
    Tapes.law(x, "look 2");
    lookers(x, 0, 0, 2, 2);
    lookers(x, 1, 0, 2, 4);
    Tapes.law(x, "look 3;open 3");
    due("tree", x.tree(0, 0), 9);
    lookers(x, 0, 0, 2, 2);
    lookers(x, 2, 0, 2, 2);
    lookers(x, 3, 0, 2, 4);
    Tapes.law(x, "look 3;open 6");
    lookers(x, 0, 0, 2, 4);
    Tapes.law(x, "look 3;open 0;slip 0");
    lookers(x, 0, 0, 2, 2);
    lookers(x, 3, 0, 2, 3);
    Tapes.law(x, "look 0");
    lookers(x, 0, 0, 2, 4);
  }

  /** A dear source may be chosen for nothing but a look less. */
  private static void sets() {
    SlipTrees x = new SlipTrees();
    for (int t = 0; t < 3; t++) {
      x.thing(1, 1, 1, 1, 0, 0);
    }
    for (int p = 0; p < 4; p++) {
      x.paper(p, 0, 0);
    }
    for (int t = 0; t < 3; t++) {
      x.entry(t, t, 1, 1, 1, 1, 0);
      x.entry(3, t, 1, 1, 1, 1, 0);
    }
    Tapes.law(x, "look 2;open 12 if year = 3");
    due("tree", x.tree(0, 0), 12);
    lookers(x, 9, 0, 6, 6);
    lookers(x, 10, 0, 5, 6);
    lookers(x, 19, 0, 5, 6);
    lookers(x, 20, 0, 4, 6);
    lookers(x, 29, 0, 4, 6);
    lookers(x, 30, 0, 3, 6);
  }

  private static void ghosts() {
    SlipTrees x = new SlipTrees();
    x.thing(1, 1, 1, 1, 0, 1);
    x.thing(1, 1, 1, 1, 0, 0);
    x.paper(1, 0, 0);
    x.paper(2, 0, 0);
    x.entry(0, 0, 2, 2, 2, 2, 0);
    x.entry(1, 0, 2, 2, 2, 2, 0);
    lookers(x, 0, 0, 0, 0);
    lookers(x, 40, 0, 0, 0);
    x.entry(0, 1, 1, 1, 1, 1, 0);
    x.entry(1, 1, 1, 1, 1, 1, 0);
    due("tree", x.tree(0, 0), 20 + 5 + 3);
    lookers(x, 0, 0, 1, 1);
    lookers(x, 4, 0, 1, 1);
    lookers(x, 5, 0, 1, 2);
    Tapes.law(x, "birth 0");
    due("tree", x.tree(0, 0), 0 + 5 + 3);
    lookers(x, 1, 0, 1, 1);
    lookers(x, 2, 0, 1, 2);
  }

  /**
   * Looks that are dearer than lifts by unlike sums, told in no order: 3, 1, 2, 0, 4 more; each lift
   * costs 5, that of thing t besides 1 if it is odd.
   */
  private static void inOrder() {
    SlipTrees x = new SlipTrees();
    for (int t = 0; t < 5; t++) {
      x.thing(10, 10, 10, 10, 0, 0);
    }
    x.paper(1, 0, 0);
    x.paper(2, 0, 0);
    for (int t = 0; t < 5; t++) {
      x.entry(0, t, 10, 10, 10, 10, 0);
      x.entry(1, t, 20, 10, 10, 10, 0);
    }
    // In the second list a look costs 8, 7, 7, 6, 9 with its slip, a lift 5, 6, 5, 6, 5.
    Tapes.law(x, "slip 5;slip 6 if thing=1 or thing=3;look 0;open 0");
    Tapes.law(x, "look 3 if year=2 and thing=0;look 1 if year=2 and thing=1;look 2 if year=2 and thing=2");
    Tapes.law(x, "look 0 if year=2 and thing=3;look 4 if year=2 and thing=4");
    due("tree", x.tree(0, 0), 27);
    lookers(x, 0, 0, 5, 6);
    lookers(x, 1, 0, 5, 7);
    lookers(x, 2, 0, 5, 7);
    lookers(x, 3, 0, 5, 8);
    lookers(x, 5, 0, 5, 8);
    lookers(x, 6, 0, 5, 9);
    lookers(x, 9, 0, 5, 9);
    lookers(x, 10, 0, 5, 10);
  }

  /** The most that may be spent more, just enough and one too little, to look once less. */
  private static void justEnough() {
    for (int more = 39; more <= 41; more++) {
      SlipTrees x = twoPapers();
      Tapes.law(x, "look 0;open " + more);
      due("tree", x.tree(0, 0), 0);
      lookers(x, 40, 0, more <= 40 ? 2 : 4, 4);
      lookers(x, 39, 0, more <= 39 ? 2 : 4, 4);
    }
  }

  private static void wrong() {
    SlipTrees x = twoPapers();
    due("slack -1", x.lookers(-1, 0, 0), -1);
    due("slack 41", x.lookers(41, 0, 0), -1);
    due("day -1", x.lookers(0, -1, 0), -1);
    due("day 100", x.lookers(0, 100, 0), -1);
    due("what -1", x.lookers(0, 0, -1), -1);
    due("what 2", x.lookers(0, 0, 2), -1);
    due("slack min", x.lookers(Integer.MIN_VALUE, 0, 0), -1);
    due("nothing seen", new SlipTrees().lookers(40, 99, 1), 0);
    due("day 99", x.lookers(0, 99, 1), 2);
  }

  /** Twelve entries in each of ten lists: all may look if it costs little. */
  private static void full() {
    SlipTrees x = new SlipTrees();
    x.thing(1, 1, 1, 1, 0, 0);
    for (int p = 0; p < 10; p++) {
      x.paper(p, 0, 0);
    }
    for (int i = 0; i < 120; i++) {
      x.entry(i % 10, 0, 1, 1, 1, 1, 0);
    }
    due("tree", x.tree(0, 0), 60 + 27);
    lookers(x, 0, 0, 12, 12);
    lookers(x, 40, 0, 12, 12 + 8);
    Tapes.law(x, "look 0");
    due("tree of looks", x.tree(0, 0), 0);
    lookers(x, 0, 0, 120, 120);
    lookers(x, 3, 0, 108, 120);
    lookers(x, 27, 0, 12, 120);
  }

  /** Twelve looks in one list, each dearer than its lift by 1: each spends just that. */
  private static void twelve() {
    SlipTrees x = new SlipTrees();
    x.thing(1, 1, 1, 1, 0, 0);
    x.paper(0, 0, 0);
    x.paper(1, 0, 0);
    x.entry(0, 0, 1, 1, 1, 1, 0);
    for (int i = 0; i < 12; i++) {
      x.entry(1, 0, 1, 1, 1, 1, 0);
    }
    Tapes.law(x, "look 1;open 0");
    due("tree", x.tree(0, 0), 1);
    for (int slack = 0; slack <= 40; slack++) {
      lookers(x, slack, 0, 1, 1 + Math.min(slack, 12));
    }
    Tapes.law(x, "look 4 if year = 1;open 1");
    for (int slack = 0; slack <= 40; slack++) {
      lookers(x, slack, 0, 1, 1 + slack / 4);
    }
  }

  public static void main(String[] args) {
    slack();
    together();
    fewer();
    sets();
    ghosts();
    inOrder();
    justEnough();
    wrong();
    full();
    twelve();
    CHECK.end();
  }
}
