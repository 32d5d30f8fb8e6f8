/** Terms I and promises 1 to 7, 29, 30, sentence by sentence: the edges of what is told, and of what is REFUSED. */
public final class EdgeToldTest {
  private static final Edge EDGE = new Edge("EdgeToldTest");
  private static final int MIN = Integer.MIN_VALUE;
  private static final int MAX = Integer.MAX_VALUE;

  private static void says(String words) {
    EDGE.says(words);
  }

  private static void due(String what, long got, long want) {
    EDGE.due(what, got, want);
  }

  /** What a call answered, and that it was REFUSED by that, for the only time of its object. */
  private static void refused(String what, SlipTrees x, int got, int why) {
    due(what, got, why);
    due("status of " + what, x.status(), why);
    for (int count = 5; count <= 9; count++) {
      due("count(" + count + ") behind " + what, x.count(count), count == placeOf(why) ? 1 : 0);
    }
  }

  private static int placeOf(int why) {
    return why == -1 ? 5 : why == -2 ? 6 : why == -3 ? 7 : why == -5 ? 8 : 9;
  }

  private static SlipTrees told(int things, int papers) {
    SlipTrees x = new SlipTrees();
    for (int t = 0; t < things; t++) {
      x.thing(5, 5, 5, 5, 5, 0);
    }
    for (int p = 0; p < papers; p++) {
      x.paper(p, 0, 0);
    }
    return x;
  }

  private static int entry(SlipTrees x, int paper, int thing) {
    return x.entry(paper, thing, 5, 5, 5, 5, 5);
  }

  /** Ten papers with twelve entries each, and one paper with none. */
  private static SlipTrees full() {
    SlipTrees x = told(1, 11);
    for (int i = 0; i < 120; i++) {
      entry(x, i / 12, 0);
    }
    return x;
  }

  // Promise 1.

  private static void newObject() {
    says("No THINGS, PAPERS, LAWS.");
    SlipTrees before = told(8, 16);
    Tapes.law(before, "look 50");
    before.image(0);
    SlipTrees x = new SlipTrees();
    for (int what = 0; what <= 3; what++) {
      due("count(" + what + ")", x.count(what), 0);
    }
    due("no thing for a world", x.world(0, 2, 0), -1);
    due("no paper's list", x.list(0, -1), -1);
    due("no image", x.back(0), -2);
    due("a tape with nothing", x.end(1), -1);
    due("the first thing", x.thing(5, 5, 5, 5, 5, 0), 0);
    due("the first paper", x.paper(0, 0, 0), 0);
    due("the first entry", entry(x, 0, 0), 0);
    due("no law", x.least(0, 0, 0), 5);
    due("the first text", Tapes.law(x, "look 60"), 0);
    says("`NONE = -1`: There is none.");
    due("NONE", SlipTrees.NONE, -1);
  }

  // Terms I, promises 2 to 4.

  private static void mostThings() {
    says("THINGS 0 .. 7 (8 at most)");
    SlipTrees x = told(0, 1);
    for (int t = 0; t < 8; t++) {
      due("thing", x.thing(t, t, t, t, t, 0), t);
      due("status", x.status(), 0);
    }
    refused("the ninth thing", x, x.thing(9, 9, 9, 9, 9, 1), -5);
    due("things", x.count(0), 8);
    due("an entry of the eighth", x.entry(0, 7, 7, 7, 7, 7, 7), 0);
    due("the eighth as it was told", x.least(0, 0, 0), 5);
    due("an entry of a ninth", x.entry(0, 8, 7, 7, 7, 7, 7), -2);
  }

  private static SlipTrees withThing(int field, int value) {
    SlipTrees x = new SlipTrees();
    int[] f = {5, 5, 5, 5};
    f[field] = value;
    due("thing with field " + field + " of " + value, x.thing(f[0], f[1], f[2], f[3], 0, 0), 0);
    x.paper(0, 0, 0);
    return x;
  }

  private static void fieldsOfThings() {
    says("four FIELDS 0 .. 9999 (what is right)");
    for (int field = 0; field < 4; field++) {
      for (int value : new int[] {0, 9999}) {
        int[] f = {5, 5, 5, 5};
        f[field] = value;
        SlipTrees x = withThing(field, value);
        x.entry(0, 0, f[0], f[1], f[2], f[3], 0);
        due("looked, all right", x.least(0, 0, 0), 5);
        x.entry(0, 0, 5, 5, 5, 5, 0);
        due("and one not right", x.least(0, 0, 0), 5 + 5 + 9);
      }
      for (int value : new int[] {-1, 10000, 65536, MIN, MAX}) {
        int[] f = {5, 5, 5, 5};
        f[field] = value;
        SlipTrees x = new SlipTrees();
        refused("thing with field " + field + " of " + value, x, x.thing(f[0], f[1], f[2], f[3], 5, 0), -1);
        due("things", x.count(0), 0);
      }
    }
  }

  private static void claimOfThings() {
    says("a CLAIM 0 .. 9");
    for (int claim : new int[] {0, 9}) {
      SlipTrees x = new SlipTrees();
      due("thing with claim " + claim, x.thing(5, 5, 5, 5, claim, 0), 0);
      x.paper(0, 0, 0);
      entry(x, 0, 0);
      due("drift from it", x.drift(0, 0), 5 - claim);
    }
    for (int claim : new int[] {-1, 10, MIN, MAX}) {
      SlipTrees x = new SlipTrees();
      refused("thing with claim " + claim, x, x.thing(5, 5, 5, 5, claim, 0), -1);
      due("things", x.count(0), 0);
    }
  }

  private static void ghosts() {
    says("a GHOST never was (nobody can look at it)");
    SlipTrees x = told(0, 2);
    x.thing(5, 5, 5, 5, 5, 1);
    entry(x, 0, 0);
    Tapes.law(x, "look 0;birth 300");
    due("born, though a look is for nothing", x.least(0, 0, 0), 300);
    due("looked", x.tree(0, 1), 0);
    due("lookers at most", x.lookers(40, 0, 1), 0);
    says("(ghost 1: never was)");
    for (int ghost : new int[] {-1, 2, 3, MIN, MAX}) {
      SlipTrees y = new SlipTrees();
      refused("thing with ghost " + ghost, y, y.thing(5, 5, 5, 5, 5, ghost), -1);
      due("things", y.count(0), 0);
    }
    SlipTrees y = told(1, 0);
    due("births of ghost 0", y.births(0, 0, -1), -1);
    y.thing(5, 5, 5, 5, 5, 1);
    due("births of ghost 1", y.births(1, 0, -1), 0);
  }

  private static void mostPapers() {
    says("PAPERS 0 .. 15 (16 at most)");
    SlipTrees x = told(1, 0);
    for (int p = 0; p < 16; p++) {
      due("paper", x.paper(p, 0, 0), p);
      due("status", x.status(), 0);
    }
    refused("the seventeenth paper", x, x.paper(0, 0, 0), -5);
    due("papers", x.count(1), 16);
    due("an entry of the sixteenth", entry(x, 15, 0), 0);
    due("list of the sixteenth", x.list(15, -1), 1);
    due("an entry of a seventeenth", entry(x, 16, 0), -2);
    due("list of a seventeenth", x.list(16, -1), -1);
  }

  private static void numbersOfPapers() {
    int[][] most = {{399, 0, 0}, {0, 7, 0}, {0, 0, 99}, {399, 7, 99}, {0, 0, 0}};
    says("YEAR 0 .. 399, KIN 0 .. 7, SEEN from a DAY 0 .. 99 on");
    for (int[] m : most) {
      SlipTrees x = new SlipTrees();
      due("paper(" + m[0] + ", " + m[1] + ", " + m[2] + ")", x.paper(m[0], m[1], m[2]), 0);
      due("status", x.status(), 0);
    }
    int[][] wrong = {{-1, 0, 0}, {400, 0, 0}, {MIN, 0, 0}, {MAX, 0, 0}, {0, -1, 0}, {0, 8, 0}, {0, MIN, 0},
        {0, MAX, 0}, {0, 0, -1}, {0, 0, 100}, {0, 0, MIN}, {0, 0, MAX}};
    for (int[] w : wrong) {
      SlipTrees x = new SlipTrees();
      refused("paper(" + w[0] + ", " + w[1] + ", " + w[2] + ")", x, x.paper(w[0], w[1], w[2]), -1);
      due("papers", x.count(1), 0);
    }
  }

  /** What a paper was told by is what is asked then. */
  private static void paperAsTold() {
    says("of a YEAR ahead of its own");
    SlipTrees x = told(1, 0);
    x.paper(399, 7, 99);
    x.paper(0, 7, 99);
    entry(x, 0, 0);
    entry(x, 1, 0);
    Tapes.law(x, "open year+years if kin");
    due("not seen on 98", x.least(0, 98, 0), -1);
    due("seen on 99, of year 399, of kin 7", x.judge(0, 1, 99), 798);
  }

  private static void mostEntries() {
    says("ENTRIES 0 .. 119 (120 at most)");
    SlipTrees x = told(1, 11);
    for (int i = 0; i < 120; i++) {
      due("entry", entry(x, i / 12, 0), i);
    }
    refused("the 121st entry, in an empty list", x, entry(x, 10, 0), -5);
    due("entries", x.count(2), 120);
    due("list of the eleventh", x.list(10, -1), 0);
    due("the 120th", x.of(119, 1), 11);
    due("no 121st", x.of(120, 1), -1);
  }

  private static void mostOfAList() {
    says("in its LIST as told, 12 at most");
    SlipTrees x = told(1, 2);
    for (int i = 0; i < 12; i++) {
      due("entry", entry(x, 0, 0), i);
      due("its place", x.of(i, 1), i);
    }
    refused("the thirteenth of a list", x, entry(x, 0, 0), -5);
    due("list", x.list(0, -1), 12);
    due("entries", x.count(2), 12);
    due("one of another list", entry(x, 1, 0), 12);
    due("its place", x.of(12, 1), 0);
  }

  private static void numbersOfEntries() {
    says("a THING, four FIELDS, a CLAIM.");
    for (int at = 0; at < 5; at++) {
      int most = at < 4 ? 9999 : 9;
      for (int value : new int[] {0, most}) {
        SlipTrees x = told(1, 1);
        due("entry with " + value + " at " + at, entryWith(x, at, value), 0);
        due("what it is", x.of(0, 3 + at), value);
        due("status", x.status(), 0);
      }
      for (int value : new int[] {-1, most + 1, MIN, MAX}) {
        SlipTrees x = told(1, 1);
        refused("entry with " + value + " at " + at, x, entryWith(x, at, value), -1);
        due("entries", x.count(2), 0);
        due("list", x.list(0, -1), 0);
      }
    }
  }

  private static int entryWith(SlipTrees x, int at, int value) {
    int[] v = {5, 5, 5, 5, 5};
    v[at] = value;
    return x.entry(0, 0, v[0], v[1], v[2], v[3], v[4]);
  }

  private static void noSuch() {
    says("-2 there is no such THING, PAPER, IMAGE");
    for (int none : new int[] {-1, 2, 7, 8, 15, 16, MIN, MAX}) {
      SlipTrees x = told(2, 2);
      refused("entry of no paper " + none, x, entry(x, none, 0), -2);
      SlipTrees y = told(2, 2);
      refused("entry of no thing " + none, y, entry(y, 0, none), -2);
      due("entries", y.count(2), 0);
      SlipTrees z = told(2, 2);
      z.feed(0, 0, 0, 0, 0);
      refused("row of no paper " + none, z, z.row(none), -2);
    }
    SlipTrees x = new SlipTrees();
    refused("entry where there is nothing", x, entry(x, 0, 0), -2);
    SlipTrees y = new SlipTrees();
    refused("back to no image", y, y.back(1), -2);
    SlipTrees z = told(2, 2);
    due("the last that there is", entry(z, 1, 1), 0);
  }

  /** Each call that can be REFUSED, by each number that its promise names, and by no other one. */
  private static void eachRefusal() {
    says("-1 a number that can't be; -2 there is no such THING, PAPER, IMAGE; -3 it can't be by what stands; -5 no"
        + " room; -6 a TEXT, a ROW that can't be.");
    SlipTrees x = told(7, 16);
    refused("thing: -1", x, x.thing(5, 5, 5, 5, 10, 0), -1);
    x = told(8, 16);
    refused("thing: -5", x, x.thing(5, 5, 5, 5, 5, 0), -5);
    x = told(8, 15);
    refused("paper: -1", x, x.paper(400, 0, 0), -1);
    x = told(8, 16);
    refused("paper: -5", x, x.paper(0, 0, 0), -5);
    says("An ENTRY: its number. -1; -2; -5 (its LIST's, or in all).");
    x = told(1, 1);
    refused("entry: -1", x, x.entry(0, 0, 10000, 5, 5, 5, 5), -1);
    x = told(1, 1);
    refused("entry: -2", x, entry(x, 1, 0), -2);
    x = full();
    refused("entry: -5 of its list", x, entry(x, 0, 0), -5);
    x = full();
    refused("entry: -5 in all", x, entry(x, 10, 0), -5);
    says("-6 a TEXT, a ROW that can't be.");
    x = told(1, 1);
    refused("row: -6", x, x.row(0), -6);
    x = told(1, 1);
    refused("law: -6", x, Tapes.law(x, "bar 1"), -6);
    x = new SlipTrees();
    refused("law: -6 of an empty tape", x, x.law(), -6);
    x = told(1, 1);
    refused("image: -1", x, x.image(2), -1);
    x = told(1, 1);
    refused("back: -1", x, x.back(-1), -1);
  }

  private static void orderOfRefusals() {
    says("The first of these in that order.");
    SlipTrees x = told(8, 16);
    refused("no room for a thing that can't be", x, x.thing(5, 5, 5, 5, 10, 0), -1);
    x = told(8, 16);
    refused("no room for a paper that can't be", x, x.paper(0, 8, 0), -1);
    x = told(1, 1);
    refused("no paper, a field that can't be", x, x.entry(1, 0, 5, 5, 5, 10000, 5), -1);
    x = told(1, 1);
    refused("no thing, a claim that can't be", x, x.entry(0, 1, 5, 5, 5, 5, -1), -1);
    x = full();
    refused("a full list, a field that can't be", x, x.entry(0, 0, -1, 5, 5, 5, 5), -1);
    x = full();
    refused("a full list, no thing", x, entry(x, 0, 1), -2);
    x = full();
    refused("no room in all, no paper", x, entry(x, 11, 0), -2);
    x = told(1, 1);
    refused("an empty tape, no paper", x, x.row(1), -2);
    x = new SlipTrees();
    refused("no image, a number that can't be", x, x.back(2), -1);
    x = new SlipTrees();
    for (int i = 0; i < 20; i++) {
      Tapes.law(x, "bar");
    }
    refused("no room for a text that can't be", x, Tapes.law(x, "what"), -5);
  }

  /** A call that is REFUSED leaves all as it was. */
  private static void nothingChanges() {
    says("REFUSED by");
    SlipTrees x = told(1, 2);
    entry(x, 0, 0);
    x.entry(1, 0, 5, 5, 5, 6, 7);
    due("least", x.least(1, 0, 0), 12);
    x.thing(5, 5, 5, 5, 5, 2);
    x.paper(400, 0, 0);
    entry(x, 2, 0);
    x.entry(0, 0, 5, 5, 5, 5, 10);
    x.row(0);
    Tapes.law(x, "look 0 open 0");
    x.image(2);
    x.back(0);
    int[] counts = {1, 2, 2, 0, 0, 4, 2, 0, 0, 2};
    for (int what = 0; what < counts.length; what++) {
      due("count(" + what + ")", x.count(what), counts[what]);
    }
    due("least", x.least(1, 0, 0), 12);
    due("tree", x.tree(0, 0), 17);
    due("list", x.list(0, -1), 1);
    due("drift", x.drift(1, 0), 2);
  }

  // Promises 6 and 7.

  private static void of() {
    says("Of an ENTRY what 0 its PAPER, 1 its place in the LIST, 2 THING, 3 .. 6 FIELDS, 7 CLAIM. NONE.");
    SlipTrees x = told(3, 4);
    entry(x, 3, 0);
    x.entry(3, 2, 9999, 0, 1234, 4321, 9);
    int[] want = {3, 1, 2, 9999, 0, 1234, 4321, 9};
    for (int what = 0; what < 8; what++) {
      due("of(1, " + what + ")", x.of(1, what), want[what]);
    }
    for (int what : new int[] {-1, 8, MIN, MAX}) {
      due("of(1, " + what + ")", x.of(1, what), -1);
    }
    for (int entry : new int[] {-1, 2, 119, 120, MIN, MAX}) {
      due("of(" + entry + ", 0)", x.of(entry, 0), -1);
      due("of(" + entry + ", 7)", x.of(entry, 7), -1);
    }
    due("of the first", x.of(0, 0), 3);
    due("of where nothing is told", new SlipTrees().of(0, 0), -1);
  }

  private static void list() {
    says("The i-th ENTRY of a LIST (i NONE: how many). NONE.");
    SlipTrees x = told(1, 3);
    entry(x, 1, 0);
    entry(x, 0, 0);
    entry(x, 1, 0);
    due("how many", x.list(1, -1), 2);
    due("the first", x.list(1, 0), 0);
    due("the last", x.list(1, 1), 2);
    for (int i : new int[] {2, 11, 12, -2, MIN, MAX}) {
      due("list(1, " + i + ")", x.list(1, i), -1);
    }
    due("how many of an empty list", x.list(2, -1), 0);
    due("the first of an empty list", x.list(2, 0), -1);
    for (int paper : new int[] {-1, 3, 15, 16, MIN, MAX}) {
      due("how many of list " + paper, x.list(paper, -1), -1);
      due("the first of list " + paper, x.list(paper, 0), -1);
    }
    for (int i = 0; i < 12; i++) {
      entry(x, 2, 0);
    }
    due("the last of a full list", x.list(2, 11), 14);
    due("none behind a full list", x.list(2, 12), -1);
  }

  // Promises 29 and 30.

  private static void count() {
    says("0 THINGS, 1 PAPERS, 2 ENTRIES, 3 TEXTS, 4 bytes of the TAPE");
    SlipTrees x = told(8, 16);
    for (int i = 0; i < 120; i++) {
      entry(x, i % 16, 0);
    }
    for (int i = 0; i < 20; i++) {
      Tapes.law(x, "bar");
    }
    for (int i = 0; i < 20; i++) {
      x.feed(0, 0, 0, 0, 0);
    }
    int[] most = {8, 16, 120, 20, 400};
    for (int what = 0; what < 5; what++) {
      due("the most, count(" + what + ")", x.count(what), most[what]);
    }
    x.end(399);
    due("count(4)", x.count(4), 399);
  }

  private static void countOfRefused() {
    says("5 .. 9 how many calls were REFUSED by -1, -2, -3, -5, -6. NONE for others.");
    SlipTrees x = told(8, 16);
    int[] want = {0, 0, 0, 0, 0};
    for (int i = 0; i < 3; i++) {
      refuseAll(x);
      want = new int[] {want[0] + 5, want[1] + 3, 0, want[3] + 2, want[4] + 2};
      for (int k = 0; k < 5; k++) {
        due("count(" + (5 + k) + ")", x.count(5 + k), want[k]);
      }
    }
    for (int what : new int[] {-1, 10, 11, MIN, MAX}) {
      due("count(" + what + ")", x.count(what), -1);
    }
  }

  private static void refuseAll(SlipTrees x) {
    x.thing(-1, 0, 0, 0, 0, 0);
    x.paper(-1, 0, 0);
    x.entry(0, 0, -1, 0, 0, 0, 0);
    x.image(-1);
    x.back(-1);
    entry(x, 16, 0);
    x.row(16);
    x.back(0);
    x.thing(0, 0, 0, 0, 0, 0);
    x.paper(0, 0, 0);
    x.row(0);
    x.law();
    // None of these is REFUSED, though they answer NONE, -2.
    x.from(0, 0);
    x.feed(0, 0, 0, 0, 0);
    x.end(400);
    x.end(0);
    x.of(0, 0);
    x.count(10);
    x.kind(-1, 0);
    x.world(-1, 0, 0);
    x.least(16, 0, 0);
  }

  private static void status() {
    says("What the latest call of thing, paper, entry, row, law, image, back was REFUSED by; 0 if it was not,"
        + " or ahead of any.");
    due("ahead of any", new SlipTrees().status(), 0);
    SlipTrees x = told(1, 1);
    int[] got = {x.thing(-1, 0, 0, 0, 0, 0), x.status(), x.thing(5, 5, 5, 5, 5, 0), x.status(),
        x.paper(-1, 0, 0), x.status(), x.paper(0, 0, 0), x.status(),
        entry(x, 9, 0), x.status(), entry(x, 0, 0), x.status(),
        x.law(), x.status(), Tapes.law(x, "bar"), x.status(),
        x.image(2), x.status(), x.image(1), x.status(),
        x.back(0), x.status(), x.back(1), x.status(),
        x.row(0), x.status(), x.feed(0, 0, 0, 0, 0) + x.row(0), x.status()};
    int[] want = {-1, -1, 1, 0, -1, -1, 1, 0, -2, -2, 0, 0, -6, -6, 0, 0, -1, -1, 0, 0, -2, -2, 0, 0, -6, -6, 22, 0};
    for (int i = 0; i < want.length; i++) {
      due((i % 2 == 0 ? "call " : "status of call ") + i / 2, got[i], want[i]);
    }
    x.row(5);
    x.status();
    due("status, asked twice", x.status(), -2);
    x.from(7, 7);
    x.end(0);
    x.feed(0, 0, 0, 0, 0);
    x.count(6);
    due("status behind calls of others", x.status(), -2);
  }

  public static void main(String[] args) {
    newObject();
    mostThings();
    fieldsOfThings();
    claimOfThings();
    ghosts();
    mostPapers();
    numbersOfPapers();
    paperAsTold();
    mostEntries();
    mostOfAList();
    numbersOfEntries();
    noSuch();
    eachRefusal();
    orderOfRefusals();
    nothingChanges();
    of();
    list();
    count();
    countOfRefused();
    status();
    EDGE.end();
  }
}
