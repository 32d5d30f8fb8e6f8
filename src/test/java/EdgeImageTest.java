/** Terms IV on IMAGES, promises 27 and 28, and how long an object is used, sentence by sentence. */
public final class EdgeImageTest {
  private static final Edge EDGE = new Edge("EdgeImageTest");
  private static final int MIN = Integer.MIN_VALUE;
  private static final int MAX = Integer.MAX_VALUE;

  private static void says(String words) {
    EDGE.says(words);
  }

  private static void due(String what, long got, long want) {
    EDGE.due(what, got, want);
  }

  /** Things (the last one a ghost), papers with a list each, and texts: all of them unlike by a told number. */
  private static void tell(SlipTrees x, int things, int papers, int texts, int by) {
    for (int t = 0; t < things; t++) {
      x.thing(by + t, by, by, by, (by + t) % 10, t == things - 1 ? 1 : 0);
    }
    for (int p = 0; p < papers; p++) {
      x.paper(by + p, (by + p) % 3, p % 4);
      for (int i = 0; i < 3; i++) {
        x.entry(p, (p + i) % things, by + (p + i) % things, by + p, by, by + i, (by + p + i) % 10);
      }
    }
    String[] laws = {"look " + (by + 7), "bar if not kin", "open " + by % 5, "slip 1 if near"};
    for (int i = 0; i < texts; i++) {
      Tapes.law(x, laws[Math.min(i, 3)]);
    }
  }

  /** The answers to all that can be asked of what stands, but of tape, fault and counts of what was REFUSED. */
  private static String all(SlipTrees x) {
    StringBuilder s = new StringBuilder();
    for (int what = 0; what < 4; what++) {
      s.append(' ').append(x.count(what));
    }
    for (int e = 0; e < 12; e++) {
      for (int what = 0; what < 8; what++) {
        s.append(' ').append(x.of(e, what));
      }
      s.append(' ').append(x.from(e, 2)).append(' ').append(x.drift(e, 2)).append(' ').append(x.weight(e, 3));
      s.append(' ').append(x.apart(e, 0, 1)).append(' ').append(x.twice(e, 1)).append(' ').append(x.alike(e, 2));
    }
    for (int p = 0; p < 4; p++) {
      s.append(' ').append(x.list(p, -1)).append(' ').append(x.least(p, 3, 0)).append(' ').append(x.least(p, 2, 2));
      s.append(' ').append(x.source(p, 3, 0)).append(' ').append(x.judge(p, 1, 3)).append(' ').append(x.run(p, 0, 0));
    }
    for (int what = 0; what < 4; what++) {
      s.append(' ').append(x.tree(3, what)).append(' ').append(x.world(12345, 4, what));
    }
    s.append(' ').append(x.lookers(9, 3, 0)).append(' ').append(x.lookers(9, 3, 1));
    return s.append(' ').append(x.births(1, 3, -1)).toString();
  }

  private static void same(String what, String got, String want) {
    due(what + ": all as it was", got.equals(want) ? 1 : 0, 1);
  }

  // Promise 27.

  private static void image() {
    says("IMAGE k is kept: 0; -1.");
    SlipTrees x = new SlipTrees();
    for (int k : new int[] {0, 1, 0, 1}) {
      due("image(" + k + ")", x.image(k), 0);
      due("its status", x.status(), 0);
    }
    int refused = 0;
    for (int k : new int[] {-1, 2, 3, MIN, MAX}) {
      due("image(" + k + ")", x.image(k), -1);
      due("its status", x.status(), -1);
      refused++;
      due("refused by -1", x.count(5), refused);
    }
  }

  // Promise 28.

  private static void back() {
    says("BACK to IMAGE k: 0. -1; -2 it was not kept.");
    SlipTrees x = new SlipTrees();
    for (int k = 0; k < 2; k++) {
      due("back(" + k + ") ahead of any", x.back(k), -2);
      due("its status", x.status(), -2);
    }
    x.image(1);
    due("back(0) behind image(1)", x.back(0), -2);
    due("back(1) behind image(1)", x.back(1), 0);
    due("its status", x.status(), 0);
    due("back(1) once more", x.back(1), 0);
    for (int k : new int[] {-1, 2, 3, MIN, MAX}) {
      due("back(" + k + ")", x.back(k), -1);
      due("its status", x.status(), -1);
    }
    x.image(2);
    due("back(0) behind image(2)", x.back(0), -2);
    due("refused by -1", x.count(5), 6);
    due("refused by -2", x.count(6), 4);
    SlipTrees y = new SlipTrees();
    y.image(0);
    due("back(1) behind image(0)", y.back(1), -2);
    due("back(0) behind image(0)", y.back(0), 0);
  }

  /** A call that is REFUSED leaves what stands, and the image that was kept. */
  private static void refusedChangesNothing() {
    says("BACK to IMAGE k: 0. -1; -2 it was not kept.");
    SlipTrees x = new SlipTrees();
    tell(x, 2, 2, 2, 5);
    x.image(0);
    x.paper(9, 0, 0);
    x.back(1);
    x.back(2);
    x.image(2);
    x.image(-1);
    due("papers", x.count(1), 3);
    x.back(0);
    due("papers of the image", x.count(1), 2);
  }

  // IMAGES.

  private static void allButThese() {
    says("IMAGES 0, 1 keep all but the TAPE, FAULT and how many calls were REFUSED");
    for (int k = 0; k < 2; k++) {
      // Another object that is told the same is asked, so that this one's calls stay few.
      SlipTrees like = new SlipTrees();
      tell(like, 3, 3, 2, 10);
      SlipTrees x = new SlipTrees();
      tell(x, 3, 3, 2, 10);
      x.image(k);
      tell(x, 2, 1, 3, 20);
      due("things then", x.count(0), 5);
      due("papers then", x.count(1), 4);
      due("entries then", x.count(2), 12);
      due("texts then", x.count(3), 5);
      x.back(k);
      same("image " + k, all(x), all(like));
    }
  }

  private static void theTape() {
    says("keep all but the TAPE");
    SlipTrees x = new SlipTrees();
    tell(x, 1, 1, 0, 1);
    Tapes.text(x, "bar");
    x.image(0);
    due("the tape behind image", x.count(4), 3);
    x.end(0);
    Tapes.text(x, "look 3");
    x.back(0);
    due("the tape behind back", x.count(4), 6);
    due("its law", x.law(), 0);
    due("what it tells", x.fault(), -1);
    x.back(0);
    due("an empty tape stays empty", x.count(4), 0);
    for (int i = 0; i < 20; i++) {
      x.feed(0, 0, 0, 0, 0);
    }
    x.image(1);
    x.back(0);
    due("a full tape stays full", x.feed(0, 0, 0, 0, 0), -1);
    x.back(1);
    due("400 bytes", x.count(4), 400);
  }

  private static void theFault() {
    says("keep all but the TAPE, FAULT");
    SlipTrees x = new SlipTrees();
    Tapes.law(x, "bar bar");
    x.image(0);
    due("behind image", x.fault(), 4);
    Tapes.law(x, "what");
    x.back(0);
    due("behind back", x.fault(), 0);
    Tapes.law(x, "bar");
    x.back(0);
    due("behind back to where there was one", x.fault(), -1);
    x.image(1);
    Tapes.law(x, "look");
    x.back(1);
    due("behind back to where there was none", x.fault(), 4);
  }

  private static void howManyWereRefused() {
    says("and how many calls were REFUSED");
    SlipTrees x = new SlipTrees();
    x.image(0);
    for (int i = 0; i < 3; i++) {
      x.paper(-1, 0, 0);
      x.row(5);
      x.law();
    }
    x.image(1);
    x.back(0);
    x.paper(-1, 0, 0);
    x.back(1);
    due("by -1", x.count(5), 4);
    due("by -2", x.count(6), 3);
    due("by -6", x.count(9), 3);
    due("status behind back", x.status(), 0);
  }

  private static void imagesStay() {
    says("BACK to one all is as it was then (IMAGES stay).");
    SlipTrees x = new SlipTrees();
    x.thing(1, 1, 1, 1, 1, 0);
    x.paper(1, 0, 0);
    x.image(0);
    x.entry(0, 0, 1, 1, 1, 1, 1);
    Tapes.law(x, "look 50");
    x.image(1);
    int[] entries = {0, 1, 1, 0, 0, 1, 0};
    int[] images = {0, 1, 1, 0, 0, 1, 0};
    for (int i = 0; i < images.length; i++) {
      x.back(images[i]);
      due("entries of image " + images[i], x.count(2), entries[i]);
      due("texts of image " + images[i], x.count(3), entries[i]);
      due("tree of image " + images[i], x.tree(0, 0), 50 * entries[i]);
      x.entry(0, 0, 2, 2, 2, 2, 2);
      Tapes.law(x, "look 60");
      x.paper(2, 0, 0);
      due("the entry behind it", x.of(entries[i], 3), 2);
    }
    x.image(0);
    x.back(1);
    due("the other image stays", x.count(2), 1);
    x.back(0);
    due("the later image alone", x.count(1), 2);
    due("its entry", x.of(0, 3), 2);
    due("its law", x.least(0, 0, 0), 60 + 36);
  }

  private static void ofNothing() {
    says("BACK to one all is as it was then");
    SlipTrees x = new SlipTrees();
    x.image(0);
    tell(x, 8, 16, 20, 30);
    due("status of a full object", x.thing(1, 1, 1, 1, 1, 1), -5);
    x.image(1);
    x.back(0);
    same("nothing", all(x), all(new SlipTrees()));
    x.back(1);
    due("things", x.count(0), 8);
    due("a ninth thing", x.thing(1, 1, 1, 1, 1, 1), -5);
    due("a seventeenth paper", x.paper(1, 1, 1), -5);
    due("a text too many", Tapes.law(x, "bar"), -5);
    x.back(0);
    due("the first thing", x.thing(1, 1, 1, 1, 1, 1), 0);
    due("the first paper", x.paper(1, 1, 1), 0);
    due("the first entry", x.entry(0, 0, 1, 1, 1, 1, 1), 0);
    due("its place", x.of(0, 1), 0);
    due("the first text", Tapes.law(x, "birth 44"), 0);
    due("by it", x.least(0, 1, 0), 44);
  }

  /** Lists, things and laws are those of the image, though others have been told in their places since. */
  private static void toldOtherwise() {
    says("BACK to one all is as it was then");
    SlipTrees x = new SlipTrees();
    x.image(1);
    tell(x, 3, 3, 2, 10);
    x.image(0);
    x.back(1);
    x.thing(9, 8, 7, 6, 5, 0);
    for (int p = 0; p < 4; p++) {
      x.paper(40 - p, 3 - p, 0);
    }
    for (int e = 0; e < 12; e++) {
      x.entry(3 - e % 4, 0, 6, 7, 8, 9, 4);
    }
    Tapes.law(x, "look 77;open 66;birth 55;slip 44");
    Tapes.law(x, "bar;bar;bar");
    x.back(0);
    SlipTrees like = new SlipTrees();
    tell(like, 3, 3, 2, 10);
    same("image 0", all(x), all(like));
    for (int p = 0; p < 3; p++) {
      for (int i = 0; i < 3; i++) {
        due("list(" + p + ", " + i + ")", x.list(p, i), 3 * p + i);
      }
    }
  }

  /** What was asked ahead of back, or of image, is no answer behind it. */
  private static void askedAnew() {
    says("BACK to one all is as it was then");
    SlipTrees x = new SlipTrees();
    x.thing(1, 1, 1, 1, 1, 0);
    x.paper(1, 0, 0);
    x.paper(2, 0, 0);
    x.entry(0, 0, 7, 7, 7, 7, 1);
    x.image(0);
    x.entry(1, 0, 7, 7, 7, 7, 1);
    x.image(1);
    int[] sums = {41, 44};
    for (int i = 0; i < 4; i++) {
      x.back(i % 2);
      due("tree", x.tree(0, 0), sums[i % 2]);
      due("sources", x.least(1, 0, 1), i % 2);
      due("from", x.from(1, 0), i % 2 == 0 ? -2 : 0);
      due("lookers", x.lookers(38, 0, 1), 1 + i % 2);
      due("weight", x.weight(0, 0), i % 2);
    }
  }

  // How long an object is used.

  private static void toTheLastCall() {
    says("An object is used for at most 512 calls after it has been made; what later calls answer is free.");
    SlipTrees x = new SlipTrees();
    int calls = 2 + 10 + 120;
    x.thing(1, 1, 1, 1, 1, 0);
    x.thing(1, 1, 1, 1, 1, 0);
    for (int p = 0; p < 10; p++) {
      x.paper(p, 0, 0);
    }
    for (int i = 0; i < 120; i++) {
      x.entry(i / 12, i % 2, 1, 1, 1, i / 12, 1);
    }
    // Each list is wrong in its last field, by the paper's number; but that of the second, which is looked.
    int sum = 12 * 14 + 12 * 5 + 8 * (3 + 12 * 9);
    for (int i = 0; i < 18; i++) {
      // Seven calls: two feeds, an end, a law, an image, a back, a question.
      x.feed(0x6c6f6f6b, 0x20352069, 0x66206e6f, 0x74206e65, 0x61723b6f);
      x.feed(0x70656e20, 0x33000000, 0, 0, 0);
      x.end(25);
      due("law", x.law(), i);
      due("image", x.image(i % 2), 0);
      due("back", x.back(i % 2), 0);
      due("tree", x.tree(0, 0), sum);
      calls += 7;
    }
    while (calls < 511) {
      due("lookers of call " + calls, x.lookers(0, 0, calls % 2), 24);
      calls++;
    }
    due("the 512th call", x.tree(0, 0), sum);
  }

  public static void main(String[] args) {
    image();
    back();
    refusedChangesNothing();
    allButThese();
    theTape();
    theFault();
    howManyWereRefused();
    imagesStay();
    ofNothing();
    toldOtherwise();
    askedAnew();
    toTheLastCall();
    EDGE.end();
  }
}
