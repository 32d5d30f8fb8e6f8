/** Promises 14 to 18: least, source, from, judge, tree. */
public final class LeastTest {
  private static final Check CHECK = new Check("LeastTest");

  private static void due(String what, long got, long want) {
    CHECK.due(what, got, want);
  }

  private static void least(SlipTrees x, int paper, int day, int sum, int sources, int bits) {
    String what = "least(" + paper + ", " + day + ", ";
    due(what + "0)", x.least(paper, day, 0), sum);
    due(what + "1)", x.least(paper, day, 1), sources);
    due(what + "2)", x.least(paper, day, 2), bits);
  }

  /** Things whose fields are all right at 1000. */
  private static SlipTrees things(int many) {
    SlipTrees x = new SlipTrees();
    for (int t = 0; t < many; t++) {
      x.thing(1000, 1000, 1000, 1000, 5, 0);
    }
    return x;
  }

  /** An entry that is not right in so many fields, all by the same slip. */
  private static int entry(SlipTrees x, int paper, int thing, int wrong, int value) {
    return x.entry(paper, thing, wrong > 0 ? value : 1000, wrong > 1 ? value : 1000, wrong > 2 ? value : 1000,
        wrong > 3 ? value : 1000, 5);
  }

  private static void ordinary() {
    SlipTrees x = things(2);
    x.paper(10, 0, 0);
    x.paper(20, 0, 0);
    x.paper(30, 0, 7);
    int a = entry(x, 0, 0, 2, 7);
    int b = entry(x, 0, 1, 0, 7);
    int c = entry(x, 1, 0, 3, 7);
    int d = entry(x, 1, 1, 0, 7);
    int e = entry(x, 2, 0, 3, 7);
    int f = entry(x, 2, 1, 1, 7);
    least(x, 0, 0, 5 + 18 + 5, 0, 0);
    least(x, 1, 0, 3 + 9, 1, 1);
    least(x, 2, 7, 3 + 9, 2, 2);
    least(x, 2, 99, 3 + 9, 2, 2);
    least(x, 2, 6, -1, -1, -1);
    int[] origins = {-1, -1, a, b, c, d};
    for (int i = 0; i < 6; i++) {
      due("from(" + i + ", 7)", x.from(i, 7), origins[i]);
    }
    due("from of one not seen", x.from(e, 6), -2);
    due("from of one not seen", x.from(f, 0), -2);
    due("judge none", x.judge(2, 0, 7), 5 + 27 + 5 + 9);
    due("judge 1", x.judge(2, 1, 7), 3 + 9 + 9);
    due("judge 2", x.judge(2, 2, 7), 3 + 0 + 9);
    due("judge 3", x.judge(2, 3, 7), 6 + 0 + 9);
    due("judge 4", x.judge(2, 4, 7), -1);
    due("judge -1", x.judge(2, -1, 7), -1);
    due("judge of one not seen", x.judge(2, 0, 6), -1);
    due("judge of no paper", x.judge(3, 0, 7), -1);
    due("judge min", x.judge(2, Integer.MIN_VALUE, 7), -1);
    due("judge max", x.judge(2, Integer.MAX_VALUE, 7), -1);
    due("tree 0", x.tree(0, 0), 28 + 12);
    due("tree 7", x.tree(7, 0), 28 + 12 + 12);
    due("looked on 0", x.tree(0, 1), 2);
    due("looked on 7", x.tree(7, 1), 2);
    due("lifted on 0", x.tree(0, 2), 2);
    due("lifted on 7", x.tree(7, 2), 4);
    due("born", x.tree(7, 3), 0);
    due("mended", x.tree(7, 4), 0);
    due("wrong again on 0", x.tree(0, 5), 1);
    due("wrong again on 7", x.tree(7, 5), 2);
  }

  private static void wrong() {
    SlipTrees x = things(1);
    x.paper(10, 0, 0);
    entry(x, 0, 0, 0, 0);
    for (int what : new int[] {-1, 3, Integer.MAX_VALUE}) {
      due("least of what is not", x.least(0, 0, what), -1);
    }
    for (int day : new int[] {-1, 100, Integer.MIN_VALUE, Integer.MAX_VALUE}) {
      due("least on no day", x.least(0, day, 0), -1);
      due("source on no day", x.source(0, day, 0), -1);
      due("from on no day", x.from(0, day), -2);
      due("judge on no day", x.judge(0, 0, day), -1);
      due("tree on no day", x.tree(day, 0), -1);
    }
    for (int paper : new int[] {-1, 1, 16, Integer.MAX_VALUE}) {
      due("least of no paper", x.least(paper, 0, 0), -1);
      due("source of no paper", x.source(paper, 0, 0), -1);
      due("judge of no paper", x.judge(paper, 0, 0), -1);
    }
    for (int entry : new int[] {-1, 1, 120, Integer.MAX_VALUE}) {
      due("from of no entry", x.from(entry, 0), -2);
    }
    due("tree of what is not", x.tree(0, -1), -1);
    due("tree of what is not", x.tree(0, 6), -1);
    due("day 99", x.least(0, 99, 0), 5);
  }

  /** Sources: of an earlier year, with a thing of the paper's, in order, the first nine. */
  private static void sources() {
    SlipTrees x = things(3);
    int[] years = {10, 20, 9, 30, 0, 19, 5};
    int[] seen = {0, 0, 0, 0, 4, 0, 0};
    for (int p = 0; p < years.length; p++) {
      x.paper(years[p], 0, seen[p]);
    }
    entry(x, 1, 0, 0, 0);
    entry(x, 1, 2, 0, 0);
    entry(x, 0, 0, 0, 0);
    entry(x, 2, 1, 0, 0);
    entry(x, 3, 0, 0, 0);
    entry(x, 4, 1, 0, 0);
    entry(x, 4, 2, 0, 0);
    entry(x, 5, 2, 0, 0);
    due("sources on 0", x.least(1, 0, 1), 2);
    due("first", x.source(1, 0, 0), 0);
    due("second", x.source(1, 0, 1), 5);
    due("third", x.source(1, 0, 2), -1);
    due("sources on 4", x.least(1, 4, 1), 3);
    due("second on 4", x.source(1, 4, 1), 4);
    due("third on 4", x.source(1, 4, 2), 5);
    due("fourth on 4", x.source(1, 4, 3), -1);
    due("source -1", x.source(1, 4, -1), -1);
    due("source min", x.source(1, 4, Integer.MIN_VALUE), -1);
    due("source of one not seen", x.source(4, 3, 0), -1);
    due("of an empty list", x.least(6, 0, 1), 0);
    due("on 0 again", x.source(1, 0, 1), 5);
    x.paper(20, 0, 0);
    entry(x, 7, 0, 0, 0);
    due("one of the same year is none", x.least(1, 4, 1), 3);
    due("nor the other way", x.source(7, 0, 1), -1);
  }

  private static void nineSources() {
    SlipTrees x = things(1);
    x.paper(50, 0, 0);
    entry(x, 0, 0, 2, 7);
    for (int p = 1; p <= 12; p++) {
      x.paper(p, 0, p == 3 ? 1 : 0);
      entry(x, p, 0, p == 11 ? 2 : 0, 7);
    }
    due("nine", x.least(0, 0, 1), 9);
    due("the ninth", x.source(0, 0, 8), 10);
    due("no tenth", x.source(0, 0, 9), -1);
    due("the ninth with the third", x.source(0, 1, 8), 9);
    due("the eleventh is not one of them", x.least(0, 0, 0), 3 + 18);
    due("judge with the ninth", x.judge(0, 256, 0), 21);
    due("judge with all nine", x.judge(0, 511, 0), 27 + 18);
    due("judge with a tenth", x.judge(0, 512, 0), -1);
    Tapes.law(x, "bar if years = 49");
    due("the first is barred", x.source(0, 0, 8), 11);
    due("the eleventh is one then", x.least(0, 0, 2), 256);
    due("from it", x.from(0, 0), 11);
  }

  /** Of alike sums the fewest chosen, then the lowest bits; LOOKED ahead of LIFTED; lower numbers first. */
  private static void ties() {
    SlipTrees x = things(2);
    x.paper(50, 0, 0);
    x.paper(1, 0, 0);
    x.paper(2, 0, 0);
    x.paper(3, 0, 0);
    int a = entry(x, 0, 0, 1, 7);
    int b = entry(x, 0, 1, 1, 7);
    int c = entry(x, 3, 0, 1, 7);
    int d = entry(x, 3, 1, 1, 7);
    int e = entry(x, 2, 1, 1, 7);
    int f = entry(x, 1, 0, 1, 7);
    least(x, 0, 0, 3, 3, 4);
    due("from the third", x.from(a, 0), c);
    Tapes.law(x, "open 1;open 2 if years = 47");
    least(x, 0, 0, 2, 3, 4);
    due("fewest chosen", x.from(b, 0), d);
    Tapes.law(x, "open 1");
    due("third alone", x.least(0, 0, 2), 4);
    Tapes.law(x, "open 3 if years = 47");
    least(x, 0, 0, 2, 3, 3);
    due("from the first", x.from(a, 0), f);
    due("from the second", x.from(b, 0), e);
    Tapes.law(x, "look 0;slip 0;open 0");
    least(x, 0, 0, 0, 3, 0);
    due("looked ahead of lifted", x.from(a, 0), -1);
  }

  private static void tiesAmongSources() {
    SlipTrees x = things(2);
    x.paper(50, 0, 0);
    x.paper(1, 0, 0);
    x.paper(2, 0, 0);
    int a = entry(x, 0, 0, 1, 7);
    int b = entry(x, 2, 0, 1, 7);
    int c = entry(x, 1, 0, 1, 7);
    entry(x, 1, 0, 1, 7);
    least(x, 0, 0, 3, 2, 1);
    due("the lowest source, though its entry is later", x.from(a, 0), c);
    Tapes.law(x, "slip 9;slip 1 if to = 8;open 0;look 40");
    int d = entry(x, 0, 1, 1, 8);
    int e = entry(x, 2, 1, 0, 8);
    due("two that cost nothing", x.least(0, 0, 2), 2);
    due("from the second", x.from(a, 0), b);
    due("from the second, too", x.from(d, 0), e);
    entry(x, 1, 1, 0, 0);
    due("then the first alone", x.least(0, 0, 2), 1);
    due("from the lowest entry of the first", x.from(a, 0), c);
  }

  /** With both sources chosen, an entry that costs alike from both is from the first. */
  private static void bothChosen() {
    SlipTrees x = things(3);
    x.paper(50, 0, 0);
    x.paper(1, 0, 0);
    x.paper(2, 0, 0);
    int a = entry(x, 0, 0, 4, 7);
    int b = entry(x, 0, 1, 4, 7);
    int c = entry(x, 0, 2, 0, 7);
    int d = entry(x, 2, 0, 4, 7);
    int e = entry(x, 2, 2, 0, 7);
    int f = entry(x, 1, 2, 0, 7);
    int g = entry(x, 1, 1, 4, 7);
    least(x, 0, 0, 6, 2, 3);
    due("a", x.from(a, 0), d);
    due("b", x.from(b, 0), g);
    due("c from the first", x.from(c, 0), f);
    Tapes.law(x, "look 0");
    due("c looked", x.from(c, 0), -1);
    Tapes.law(x, "look 0;slip 0 if thing = 2");
    due("c looked", x.from(c, 0), -1);
    x.entry(0, 2, 1, 1, 1, 1, 5);
    due("a later entry of it", x.from(7, 0), -1);
    due("e", x.from(e, 0), -1);
  }

  /** A list may have a thing twice, and lift it from either. */
  private static void aThingTwice() {
    SlipTrees x = things(1);
    x.paper(1, 0, 0);
    x.paper(2, 0, 0);
    entry(x, 0, 0, 4, 7);
    entry(x, 0, 0, 4, 8);
    entry(x, 0, 0, 4, 8);
    entry(x, 1, 0, 4, 8);
    entry(x, 1, 0, 4, 7);
    entry(x, 1, 0, 3, 8);
    least(x, 1, 0, 3 + 9, 1, 1);
    due("from the second", x.from(3, 0), 1);
    due("from the first", x.from(4, 0), 0);
    due("nearest to the second", x.from(5, 0), 1);
  }

  private static void ghosts() {
    SlipTrees x = things(1);
    x.thing(1000, 1000, 1000, 1000, 5, 1);
    x.paper(1, 0, 0);
    x.paper(2, 0, 0);
    x.paper(3, 0, 0);
    int a = entry(x, 0, 1, 4, 7);
    int b = entry(x, 1, 1, 4, 7);
    int c = entry(x, 2, 1, 2, 7);
    int d = entry(x, 2, 0, 0, 7);
    least(x, 0, 0, 20, 0, 0);
    least(x, 1, 0, 3, 1, 1);
    least(x, 2, 0, 20 + 5, 2, 0);
    due("born", x.from(a, 0), -1);
    due("lifted", x.from(b, 0), a);
    due("born, as lifting costs more", x.from(c, 0), -1);
    due("looked", x.tree(0, 1), 1);
    due("lifted", x.tree(0, 2), 1);
    due("born", x.tree(0, 3), 2);
    due("sum", x.tree(0, 0), 48);
    Tapes.law(x, "slip 1");
    due("lifted then", x.from(c, 0), a);
    due("mended", x.tree(0, 4), 2);
    due("wrong again", x.tree(0, 5), 0);
    due("d", x.from(d, 0), -1);
  }

  private static void mended() {
    SlipTrees x = things(2);
    x.paper(1, 0, 0);
    x.paper(2, 0, 0);
    x.paper(3, 0, 2);
    x.entry(0, 0, 7, 7, 1000, 1000, 0);
    x.entry(1, 0, 1000, 8, 6, 1000, 5);
    x.entry(2, 0, 1000, 1000, 1000, 5, 5);
    x.entry(0, 1, 7, 7, 1000, 1000, 0);
    Tapes.law(x, "look 500;slip 1;open 0");
    due("from the first", x.from(1, 2), 0);
    due("from the first, too: alike", x.least(2, 2, 0), 3);
    due("from the lower source", x.from(2, 2), 0);
    due("mended on 0", x.tree(0, 4), 1);
    due("wrong again on 0", x.tree(0, 5), 1);
    due("mended on 2", x.tree(2, 4), 1 + 2);
    due("wrong again on 2", x.tree(2, 5), 1 + 1);
    due("looked on 2", x.tree(2, 1), 2);
  }

  /** What is found for one day is not taken for another one, nor kept when all changes. */
  private static void days() {
    SlipTrees x = things(1);
    for (int p = 0; p < 5; p++) {
      x.paper(p, 0, (5 - p) * 10);
      entry(x, p, 0, Math.min(4, p + 1), 7);
    }
    int[] want = {-1, -1, -1, -1, 5 + 36};
    due("day 10", x.least(4, 10, 0), want[4]);
    due("day 20", x.least(4, 20, 0), 3);
    due("day 10 again", x.least(4, 10, 0), want[4]);
    due("day 9", x.least(4, 9, 0), -1);
    due("day 50", x.least(4, 50, 2), 8);
    due("from on 10", x.from(4, 10), -1);
    due("from on 20", x.from(4, 20), 3);
    due("from on 50", x.from(4, 50), 3);
    due("tree on 10", x.tree(10, 0), 41);
    due("tree on 20", x.tree(20, 0), 41 + 3);
    due("tree on 30", x.tree(30, 0), 3 + 12 + 5 + 27);
    due("tree on 10 again", x.tree(10, 0), 41);
    x.paper(3, 0, 0);
    int e = entry(x, 5, 0, 4, 7);
    due("a new paper's entry", x.from(4, 10), e);
    due("and its tree", x.tree(10, 0), 41 + 3);
    due("tree without a paper seen", new SlipTrees().tree(99, 0), 0);
  }

  public static void main(String[] args) {
    ordinary();
    wrong();
    sources();
    nineSources();
    ties();
    tiesAmongSources();
    bothChosen();
    aThingTwice();
    ghosts();
    mended();
    days();
    CHECK.end();
  }
}
