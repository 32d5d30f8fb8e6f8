/** Promises 27 and 28: images, and back to them. */
public final class ImageTest {
  private static final Check CHECK = new Check("ImageTest");

  private static void due(String what, long got, long want) {
    CHECK.due(what, got, want);
  }

  private static SlipTrees told() {
    SlipTrees x = new SlipTrees();
    x.thing(1, 1, 1, 1, 0, 0);
    x.paper(1, 0, 0);
    x.entry(0, 0, 1, 1, 1, 1, 0);
    return x;
  }

  private static void wrong() {
    SlipTrees x = told();
    due("image(-1)", x.image(-1), -1);
    due("image(2)", x.image(2), -1);
    due("back(-1)", x.back(-1), -1);
    due("back(2)", x.back(2), -1);
    due("back(0)", x.back(0), -2);
    due("back(1)", x.back(1), -2);
    due("status", x.status(), -2);
    due("image(1)", x.image(1), 0);
    due("back(0) still", x.back(0), -2);
    due("back(1) then", x.back(1), 0);
    due("count of -1", x.count(5), 4);
    due("count of -2", x.count(6), 3);
    due("image(max)", x.image(Integer.MAX_VALUE), -1);
  }

  private static void all() {
    SlipTrees x = told();
    Tapes.law(x, "look 40");
    due("least", x.least(0, 0, 0), 40);
    due("image", x.image(0), 0);
    x.thing(2, 2, 2, 2, 0, 1);
    x.paper(2, 0, 0);
    x.entry(1, 0, 1, 1, 1, 3, 0);
    x.entry(0, 1, 2, 2, 2, 2, 0);
    Tapes.law(x, "look 60");
    due("least then", x.least(0, 0, 0), 60 + 20);
    due("tree then", x.tree(0, 0), 80 + 3 + 9);
    due("image 1", x.image(1), 0);
    due("back", x.back(0), 0);
    int[] counts = {1, 1, 1, 1};
    for (int what = 0; what < 4; what++) {
      due("count(" + what + ")", x.count(what), counts[what]);
    }
    due("least as it was", x.least(0, 0, 0), 40);
    due("tree as it was", x.tree(0, 0), 40);
    due("no second paper", x.least(1, 0, 0), -1);
    due("list as it was", x.list(0, -1), 1);
    due("no second entry", x.of(1, 0), -1);
    due("an entry gets the number again", x.entry(0, 0, 1, 1, 1, 2, 0), 1);
    due("least with it", x.least(0, 0, 0), 40 + 40 + 9);
    due("forward", x.back(1), 0);
    due("least as it was then", x.least(0, 0, 0), 80);
    due("tree as it was then", x.tree(0, 0), 92);
    due("ghost as it was then", x.births(1, 0, 0), 2);
    due("texts then", x.count(3), 2);
    due("back once more", x.back(0), 0);
    due("least once more", x.least(0, 0, 0), 40);
    due("second entry is gone", x.count(2), 1);
    due("no thing 1", x.entry(0, 1, 1, 1, 1, 1, 0), -2);
  }

  /** What comes behind an image does not change it. */
  private static void imagesStay() {
    SlipTrees x = told();
    x.image(0);
    x.entry(0, 0, 5, 5, 5, 5, 0);
    x.back(0);
    x.entry(0, 0, 6, 6, 6, 6, 0);
    x.thing(9, 9, 9, 9, 9, 0);
    Tapes.law(x, "look 1");
    due("an entry", x.of(1, 3), 6);
    x.back(0);
    due("none", x.of(1, 3), -1);
    due("things", x.count(0), 1);
    due("texts", x.count(3), 0);
    x.entry(0, 0, 7, 7, 7, 7, 0);
    x.image(0);
    x.back(0);
    due("the later image", x.of(1, 3), 7);
  }

  /** An image of more, back from one of less on which other things were built. */
  private static void lessAndMore() {
    SlipTrees x = new SlipTrees();
    x.image(1);
    x.thing(1, 2, 3, 4, 5, 1);
    x.thing(6, 6, 6, 6, 6, 0);
    x.paper(10, 2, 3);
    x.paper(20, 2, 3);
    x.entry(1, 0, 11, 12, 13, 14, 6);
    x.entry(0, 0, 21, 22, 23, 24, 7);
    Tapes.law(x, "birth 70");
    x.image(0);
    x.back(1);
    x.thing(9, 9, 9, 9, 9, 0);
    x.thing(9, 9, 9, 9, 9, 0);
    x.paper(30, 3, 0);
    x.paper(30, 3, 0);
    x.entry(0, 0, 1, 1, 1, 1, 1);
    x.entry(0, 1, 1, 1, 1, 1, 1);
    Tapes.law(x, "look 80");
    x.back(0);
    int[][] rows = {{1, 0, 0, 11, 12, 13, 14, 6}, {0, 0, 0, 21, 22, 23, 24, 7}};
    for (int e = 0; e < 2; e++) {
      for (int what = 0; what < 8; what++) {
        due("of(" + e + ", " + what + ")", x.of(e, what), rows[e][what]);
      }
    }
    due("list of the second paper", x.list(1, 0), 0);
    due("list of the first paper", x.list(0, 0), 1);
    due("not seen", x.least(0, 2, 0), -1);
    due("born by law", x.least(0, 3, 0), 70);
    due("source", x.source(1, 3, 0), 0);
    due("lifted", x.from(0, 3), 1);
    due("births", x.births(0, 3, -1), 1);
  }

  /** The tape, the fault and the counts of what was refused are not kept. */
  private static void notKept() {
    SlipTrees x = told();
    Tapes.text(x, "bar");
    x.image(0);
    x.feed(0, 0, 0, 0, 0);
    x.back(0);
    due("tape", x.count(4), 23);
    x.end(3);
    due("law from the tape", x.law(), 0);
    x.image(0);
    due("fault", Tapes.fault(x, "bar 7"), 4);
    x.thing(-1, 0, 0, 0, 0, 0);
    due("status", x.status(), -1);
    x.back(0);
    due("fault after back", x.fault(), 4);
    due("count of -1", x.count(5), 1);
    due("count of -6", x.count(9), 1);
    due("status after back", x.status(), 0);
    due("texts", x.count(3), 1);
    Tapes.law(x, "bar");
    due("fault of one that goes", x.fault(), -1);
    x.back(0);
    due("fault still", x.fault(), -1);
    due("texts again", x.count(3), 1);
  }

  /** Room that was taken is free again. */
  private static void room() {
    SlipTrees x = told();
    x.image(0);
    for (int i = 0; i < 20; i++) {
      x.thing(0, 0, 0, 0, 0, 0);
      x.paper(0, 0, 0);
      x.entry(0, 0, 0, 0, 0, 0, 0);
      Tapes.law(x, "bar");
    }
    due("texts", x.count(3), 20);
    x.back(0);
    due("thing", x.thing(0, 0, 0, 0, 0, 0), 1);
    due("paper", x.paper(0, 0, 0), 1);
    due("entry", x.entry(0, 0, 0, 0, 0, 0, 0), 1);
    due("law", Tapes.law(x, "bar"), 0);
    due("a new paper's list", x.list(1, -1), 0);
  }

  public static void main(String[] args) {
    wrong();
    all();
    imagesStay();
    lessAndMore();
    notKept();
    room();
    CHECK.end();
  }
}
