/** Terms I on a ROW, and promises 5, 8, 9, sentence by sentence: the edges of the tape and of rows from it. */
public final class EdgeTapeTest {
  private static final Edge EDGE = new Edge("EdgeTapeTest");
  private static final int MIN = Integer.MIN_VALUE;
  private static final int MAX = Integer.MAX_VALUE;

  private static void says(String words) {
    EDGE.says(words);
  }

  private static void due(String what, long got, long want) {
    EDGE.due(what, got, want);
  }

  private static SlipTrees told(int things, int papers) {
    SlipTrees x = new SlipTrees();
    for (int t = 0; t < things; t++) {
      x.thing(5, 5, 5, 5, 5, 0);
    }
    for (int p = 0; p < papers; p++) {
      x.paper(p, 0, 0);
    }
    return x;
  }

  private static void put(SlipTrees x, int thing, int field, int claim) {
    Tapes.put(x, Tapes.ten(thing, field, field, field, field, claim));
  }

  // Promise 8.

  private static void order() {
    says("four of each number, the highest first");
    SlipTrees x = told(8, 1);
    x.feed(0x07000100, 0x02000300, 0x04090600, 0x0A000B00, 0x0C000D08);
    due("row", x.row(0), 2);
    int[][] want = {{0, 0, 7, 1, 2, 3, 4, 9}, {0, 1, 6, 10, 11, 12, 13, 8}};
    for (int e = 0; e < 2; e++) {
      for (int what = 0; what < 8; what++) {
        due("of(" + e + ", " + what + ")", x.of(e, what), want[e][what]);
      }
    }
    says("Twenty bytes come behind the TAPE");
    x.feed(0x01000100, 0x01000100, 0x01010000, 0, 0);
    x.end(10);
    x.feed(0x02000200, 0x02000200, 0x02020000, 0, 0);
    x.end(20);
    due("what came behind", x.row(0), 2);
    due("the first as it was", x.of(2, 2), 1);
    due("the second", x.of(3, 2), 2);
  }

  /** Bytes of 128 and above, of numbers below 0 as well. */
  private static void highBytes() {
    says("four of each number");
    SlipTrees x = told(1, 1);
    x.feed(0x0000FF00, 0x80007F00, 0xFE05FFFF, MIN, -1);
    x.end(10);
    due("row", x.row(0), 1);
    int[] want = {255, 128, 127, 254, 5};
    for (int k = 0; k < 5; k++) {
      due("of(0, " + (3 + k) + ")", x.of(0, 3 + k), want[k]);
    }
    due("feed", x.feed(MIN, -1, MAX, 0xFF000000, 0x80808080), 20);
    due("no thing 128 or 255", x.row(0), 0);
    due("feed", x.feed(-1, -1, -1, -1, -1), 20);
    due("law of bytes 255", x.law(), -6);
    due("its fault", x.fault(), 0);
  }

  private static void howManyItHas() {
    says("how many it has. NONE, if there would be more than 400.");
    SlipTrees x = told(1, 1);
    for (int i = 1; i <= 20; i++) {
      due("feed", x.feed(0, 0, 0, 0, 0), 20 * i);
      due("bytes", x.count(4), 20 * i);
    }
    for (int i = 0; i < 2; i++) {
      due("feed of a full tape", x.feed(0, 0, 0, 0, 0), -1);
      due("a full tape", x.count(4), 400);
    }
    x.end(381);
    due("feed behind 381", x.feed(0, 0, 0, 0, 0), -1);
    due("381", x.count(4), 381);
    x.end(380);
    due("feed behind 380", x.feed(0, 0, 0, 0, 0), 400);
    x.end(379);
    due("feed behind 379", x.feed(0, 0, 0, 0, 0), 399);
    due("feed behind 399", x.feed(0, 0, 0, 0, 0), -1);
    x.end(1);
    due("feed behind 1", x.feed(0, 0, 0, 0, 0), 21);
    due("status", x.status(), 0);
    due("refused", x.count(5) + x.count(6) + x.count(7) + x.count(8) + x.count(9), 0);
  }

  /** A feed that finds no room leaves the bytes that are there. */
  private static void feedWithoutRoom() {
    says("NONE, if there would be more than 400.");
    SlipTrees x = told(1, 1);
    x.feed(0x00000700, 0x07000700, 0x07020000, 0x07000700, 0x07000702);
    for (int i = 0; i < 19; i++) {
      x.feed(-1, -1, -1, -1, -1);
    }
    due("feed", x.feed(0, 0, 0, 0, 0), -1);
    due("row of the bytes that were there", x.row(0), 2);
    due("the first", x.of(0, 3), 7);
    due("the second", x.of(1, 7), 2);
    due("feed to the empty tape", x.feed(0, 0, 0, 0, 0), 20);
  }

  // Promise 9.

  private static void end() {
    says("The TAPE has its first n bytes alone: n. NONE, if it has not so many, or n is below 0.");
    SlipTrees x = told(1, 1);
    due("end(0) of an empty tape", x.end(0), 0);
    due("end(1) of an empty tape", x.end(1), -1);
    due("end(-1) of an empty tape", x.end(-1), -1);
    x.feed(0, 0, 0, 0, 0);
    for (int n : new int[] {21, 400, 401, MAX, -1, -20, MIN}) {
      due("end(" + n + ")", x.end(n), -1);
      due("bytes as they were", x.count(4), 20);
    }
    due("end(20)", x.end(20), 20);
    due("bytes", x.count(4), 20);
    due("end(19)", x.end(19), 19);
    due("bytes", x.count(4), 19);
    due("end(20) then", x.end(20), -1);
    due("end(1)", x.end(1), 1);
    due("end(0)", x.end(0), 0);
    due("bytes", x.count(4), 0);
    due("row of nothing", x.row(0), -6);
    put(x, 0, 1, 1);
    put(x, 0, 2, 2);
    x.end(10);
    put(x, 0, 3, 3);
    due("its first bytes alone", x.row(0), 2);
    due("the first", x.of(0, 3), 1);
    due("what came behind them", x.of(1, 3), 3);
    for (int i = 0; i < 20; i++) {
      x.feed(0, 0, 0, 0, 0);
    }
    due("end(401) of a full tape", x.end(401), -1);
    due("end(400) of a full tape", x.end(400), 400);
  }

  // A ROW.

  private static void byTens() {
    says("the TAPE's bytes by tens");
    for (int tens = 1; tens <= 12; tens++) {
      SlipTrees x = told(1, 1);
      for (int i = 0; i < tens; i++) {
        put(x, 0, i, 0);
      }
      due("row of " + tens, x.row(0), tens);
      due("list", x.list(0, -1), tens);
      due("the last", x.of(tens - 1, 3), tens - 1);
    }
  }

  private static void higherFirst() {
    says("four FIELDS (two bytes each, the higher first)");
    SlipTrees x = told(1, 1);
    Tapes.put(x, 0, 0x27, 0x0F, 0x01, 0x00, 0x00, 0x01, 0x10, 0x20, 0);
    due("row", x.row(0), 1);
    due("9999", x.of(0, 3), 9999);
    due("256", x.of(0, 4), 256);
    due("1", x.of(0, 5), 1);
    due("4128", x.of(0, 6), 4128);
  }

  /** One ten alone that can or can't be, and what stands behind it. */
  private static void ten(int[] ten, boolean can) {
    SlipTrees x = told(8, 1);
    Tapes.put(x, ten);
    due("row of " + java.util.Arrays.toString(ten), x.row(0), can ? 1 : 0);
    due("its status", x.status(), 0);
    due("entries", x.count(2), can ? 1 : 0);
    due("list", x.list(0, -1), can ? 1 : 0);
    Tapes.put(x, ten);
    put(x, 3, 1234, 4);
    due("row with another behind it", x.row(0), can ? 2 : 1);
    int last = x.count(2) - 1;
    due("the other's place", x.of(last, 1), last);
    due("the other's thing", x.of(last, 2), 3);
    due("the other's field", x.of(last, 6), 1234);
    due("the other's claim", x.of(last, 7), 4);
  }

  private static void passedBy() {
    says("One of which a number can't be is none (it is passed by)");
    ten(Tapes.ten(0, 0, 0, 0, 0, 0), true);
    ten(Tapes.ten(7, 9999, 9999, 9999, 9999, 9), true);
    ten(Tapes.ten(8, 0, 0, 0, 0, 0), false);
    ten(Tapes.ten(128, 0, 0, 0, 0, 0), false);
    ten(Tapes.ten(255, 0, 0, 0, 0, 0), false);
    ten(Tapes.ten(0, 0, 0, 0, 0, 10), false);
    ten(Tapes.ten(0, 0, 0, 0, 0, 128), false);
    ten(Tapes.ten(0, 0, 0, 0, 0, 255), false);
    for (int field = 0; field < 4; field++) {
      for (int value : new int[] {9999, 10000, 32768, 65535}) {
        int[] f = {1, 1, 1, 1};
        f[field] = value;
        ten(Tapes.ten(0, f[0], f[1], f[2], f[3], 0), value <= 9999);
      }
    }
    SlipTrees x = told(2, 1);
    put(x, 2, 1, 1);
    put(x, 1, 1, 1);
    due("a thing that is not told yet", x.row(0), 1);
    due("the last that is told", x.of(0, 2), 1);
    SlipTrees y = told(0, 1);
    put(y, 0, 0, 0);
    due("where no thing is told", y.row(0), 0);
    due("status", y.status(), 0);
  }

  private static void endsWithin() {
    says("if the TAPE ends within one, that one is none");
    for (int more = 0; more <= 10; more++) {
      SlipTrees x = told(1, 1);
      put(x, 0, 1, 1);
      put(x, 0, 2, 2);
      x.end(10 + more);
      due("row of " + (10 + more) + " bytes", x.row(0), more == 10 ? 2 : 1);
      due("status", x.status(), 0);
      due("tape", x.count(4), 0);
      if (more > 0) {
        put(x, 0, 3, 3);
        x.end(more);
        due("row of " + more + " bytes", x.row(0), more == 10 ? 1 : 0);
        due("status", x.status(), 0);
        due("tape", x.count(4), 0);
      }
    }
  }

  /** Bytes that an earlier tape has left are none of a shorter one behind it. */
  private static void noBytesOfEarlier() {
    says("that one is none");
    SlipTrees x = told(1, 2);
    put(x, 0, 1, 1);
    put(x, 0, 2, 2);
    x.row(0);
    put(x, 0, 3, 3);
    put(x, 0, 4, 4);
    x.end(15);
    due("row", x.row(1), 1);
    due("entries", x.count(2), 3);
    due("the one", x.of(2, 3), 3);
  }

  private static void beyondTheList() {
    says("those beyond the LIST's 12 or the 120 neither.");
    SlipTrees x = told(1, 2);
    for (int i = 0; i < 13; i++) {
      put(x, i == 4 ? 9 : 0, i, 0);
    }
    put(x, 0, 77, 0);
    due("twelve of thirteen that can be", x.row(0), 12);
    due("the twelfth", x.of(11, 3), 12);
    put(x, 0, 88, 0);
    due("a full list", x.row(0), 0);
    due("status", x.status(), 0);
    due("tape", x.count(4), 0);
    due("list", x.list(0, -1), 12);
    put(x, 0, 99, 0);
    due("another list", x.row(1), 1);
    for (int i = 0; i < 40; i++) {
      put(x, 0, i, 0);
    }
    due("forty tens for eleven places", x.row(1), 11);
    due("the last of them", x.of(23, 3), 10);
  }

  private static void beyondAll() {
    says("those beyond the LIST's 12 or the 120 neither.");
    SlipTrees x = told(1, 11);
    for (int i = 0; i < 117; i++) {
      x.entry(i / 12, 0, 5, 5, 5, 5, 5);
    }
    for (int i = 0; i < 5; i++) {
      put(x, 0, 100 + i, 0);
    }
    due("three of five", x.row(10), 3);
    due("the 120th", x.of(119, 3), 102);
    due("entries", x.count(2), 120);
    due("list", x.list(10, -1), 3);
    put(x, 0, 1, 0);
    due("none", x.row(10), 0);
    due("status", x.status(), 0);
    due("none of a list with three places left, too", x.list(9, -1), 9);
    put(x, 0, 1, 0);
    due("none there", x.row(9), 0);
    due("refused by -5", x.count(8), 0);
  }

  // Promise 5.

  private static void emptyThen() {
    says("A ROW, the TAPE is empty then: how many became ENTRIES.");
    int[] papers = {0, 2, -1, MAX};
    for (int paper : papers) {
      SlipTrees x = told(1, 2);
      put(x, 0, 1, 1);
      due("row(" + paper + ")", x.row(paper), paper == 0 ? 1 : -2);
      due("bytes", x.count(4), 0);
      due("end(1)", x.end(1), -1);
      due("a row of nothing", x.row(0), -6);
      due("bytes", x.count(4), 0);
      due("a feed", x.feed(0, 0, 0, 0, 0), 20);
    }
    SlipTrees x = told(1, 1);
    for (int i = 0; i < 20; i++) {
      x.feed(-1, -1, -1, -1, -1);
    }
    due("a full tape of which none can be", x.row(0), 0);
    due("status", x.status(), 0);
    due("bytes", x.count(4), 0);
    due("a law of nothing", x.law(), -6);
    due("its fault", x.fault(), 0);
  }

  private static void refused() {
    says("-2; -6 the TAPE is empty.");
    SlipTrees x = told(1, 1);
    due("an empty tape", x.row(0), -6);
    due("status", x.status(), -6);
    due("no paper, an empty tape", x.row(1), -2);
    due("status", x.status(), -2);
    x.feed(0, 0, 0, 0, 0);
    due("no paper", x.row(1), -2);
    due("no entries", x.count(2), 0);
    x.feed(0, 0, 0, 0, 0);
    x.end(1);
    due("one byte is no empty tape", x.row(0), 0);
    due("status", x.status(), 0);
    x.feed(0, 0, 0, 0, 0);
    x.end(0);
    due("a tape that was ended", x.row(0), -6);
    due("refused by -2", x.count(6), 2);
    due("refused by -6", x.count(9), 2);
  }

  /** What a row has told is seen by what has been asked ahead of it. */
  private static void seenAtOnce() {
    says("how many became ENTRIES");
    SlipTrees x = told(1, 2);
    put(x, 0, 5, 5);
    x.row(0);
    due("tree", x.tree(0, 0), 5);
    due("lookers", x.lookers(0, 0, 1), 1);
    put(x, 0, 6, 5);
    put(x, 0, 5, 5);
    x.row(1);
    due("tree then", x.tree(0, 0), 5 + 3 + 36);
    due("lookers then", x.lookers(0, 0, 1), 1);
    due("weight then", x.weight(0, 0), 2);
  }

  public static void main(String[] args) {
    order();
    highBytes();
    howManyItHas();
    feedWithoutRoom();
    end();
    byTens();
    higherFirst();
    passedBy();
    endsWithin();
    noBytesOfEarlier();
    beyondTheList();
    beyondAll();
    emptyThen();
    refused();
    seenAtOnce();
    EDGE.end();
  }
}
