/** Promises 5, 8, 9: the tape, and rows from it. */
public final class TapeTest {
  private static final Check CHECK = new Check("TapeTest");

  private static void due(String what, long got, long want) {
    CHECK.due(what, got, want);
  }

  private static SlipTrees told() {
    SlipTrees x = new SlipTrees();
    x.thing(1, 2, 3, 4, 5, 0);
    x.thing(1, 2, 3, 4, 5, 1);
    x.paper(0, 0, 0);
    x.paper(1, 0, 0);
    return x;
  }

  private static void feedAndEnd() {
    SlipTrees x = new SlipTrees();
    due("end of an empty tape", x.end(0), 0);
    due("end beyond an empty tape", x.end(1), -1);
    for (int i = 1; i <= 20; i++) {
      due("feed " + i, x.feed(0, 0, 0, 0, 0), 20 * i);
    }
    due("feed beyond 400", x.feed(0, 0, 0, 0, 0), -1);
    due("bytes", x.count(4), 400);
    due("end(401)", x.end(401), -1);
    due("end(-1)", x.end(-1), -1);
    due("end(min)", x.end(Integer.MIN_VALUE), -1);
    due("end(400)", x.end(400), 400);
    due("end(381)", x.end(381), 381);
    due("feed beyond 400 from 381", x.feed(0, 0, 0, 0, 0), -1);
    due("bytes still", x.count(4), 381);
    due("end(380)", x.end(380), 380);
    due("feed to 400", x.feed(0, 0, 0, 0, 0), 400);
    due("end(0)", x.end(0), 0);
    due("bytes then", x.count(4), 0);
    due("status of feed and end", x.status(), 0);
  }

  /** Each number's highest byte comes first; bytes above 127 stay themselves. */
  private static void order() {
    SlipTrees x = told();
    x.feed(0x01270F27, 0x0F270F27, 0x0F090000, 0x01000200, 0x0300047F);
    due("row", x.row(1), 1);
    int[] want = {1, 0, 1, 9999, 9999, 9999, 9999, 9};
    x.feed(0x01270F27, 0x0F270F27, 0x0F090000, 0x01000200, 0x03000408);
    due("two rows", x.row(0), 2);
    for (int what = 0; what < 8; what++) {
      due("of(0, " + what + ")", x.of(0, what), want[what]);
    }
    int[] third = {0, 1, 0, 1, 2, 3, 4, 8};
    for (int what = 0; what < 8; what++) {
      due("of(2, " + what + ")", x.of(2, what), third[what]);
    }
    x.feed(0x0000F000, 0, 0, 0, 0);
    x.end(10);
    due("a byte above 127", x.row(0), 1);
    due("a field of 240", x.of(3, 3), 240);
  }

  private static void rows() {
    SlipTrees x = told();
    due("empty tape", x.row(0), -6);
    due("status", x.status(), -6);
    due("no paper ahead of the empty tape", x.row(2), -2);
    Tapes.put(x, Tapes.ten(0, 5, 6, 7, 8, 9));
    Tapes.put(x, Tapes.ten(2, 5, 6, 7, 8, 9));
    Tapes.put(x, Tapes.ten(0, 10000, 6, 7, 8, 9));
    Tapes.put(x, Tapes.ten(0, 5, 10000, 7, 8, 9));
    Tapes.put(x, Tapes.ten(0, 5, 6, 10000, 8, 9));
    Tapes.put(x, Tapes.ten(0, 5, 6, 7, 65535, 9));
    Tapes.put(x, Tapes.ten(0, 5, 6, 7, 8, 10));
    Tapes.put(x, Tapes.ten(255, 5, 6, 7, 8, 9));
    Tapes.put(x, Tapes.ten(1, 15, 16, 17, 18, 0));
    Tapes.put(x, 0, 0, 1, 0, 2, 0, 3, 0, 4);
    due("what can't be is passed by", x.row(1), 2);
    due("status of a row", x.status(), 0);
    due("tape is empty", x.count(4), 0);
    due("entries", x.count(2), 2);
    due("first", x.of(0, 6), 8);
    due("first's paper", x.of(0, 0), 1);
    due("second", x.of(1, 6), 18);
    due("second's place", x.of(1, 1), 1);
    Tapes.put(x, 0, 0, 1, 0, 2, 0, 3, 0, 4);
    due("nine bytes", x.row(1), 0);
    due("status of nine bytes", x.status(), 0);
    due("tape is empty then", x.count(4), 0);
  }

  /** The tape is empty behind a row that is refused, too. */
  private static void refusedRows() {
    int[] none = {2, -1, 16, Integer.MAX_VALUE, Integer.MIN_VALUE};
    SlipTrees x = told();
    for (int paper : none) {
      Tapes.put(x, Tapes.ten(0, 5, 6, 7, 8, 9));
      due("bytes ahead of row(" + paper + ")", x.count(4), 10);
      due("row(" + paper + ")", x.row(paper), -2);
      due("status of row(" + paper + ")", x.status(), -2);
      due("bytes behind row(" + paper + ")", x.count(4), 0);
      due("end behind row(" + paper + ")", x.end(1), -1);
      due("row(0) behind row(" + paper + ")", x.row(0), -6);
    }
    due("refused by -2", x.count(6), none.length);
    due("refused by -6", x.count(9), none.length);
    due("entries", x.count(2), 0);
    for (int i = 0; i < 20; i++) {
      x.feed(0, 0, 0, 0, 0);
    }
    due("a full tape, no paper", x.row(2), -2);
    due("feed behind it", x.feed(0, 0, 0, 0, 0), 20);
    due("the row behind it", x.row(0), 2);
    Tapes.text(x, "slip 1");
    due("a text, no paper", x.row(2), -2);
    due("law behind it", x.law(), -6);
    due("fault of the empty tape", x.fault(), 0);
  }

  private static void room() {
    SlipTrees x = told();
    for (int i = 0; i < 13; i++) {
      Tapes.put(x, Tapes.ten(0, i, 0, 0, 0, 0));
    }
    due("twelve of thirteen", x.row(0), 12);
    due("the last", x.of(11, 3), 11);
    Tapes.put(x, Tapes.ten(0, 1, 0, 0, 0, 0));
    due("none into a full list", x.row(0), 0);
    due("status of a full list", x.status(), 0);
    for (int p = 2; p < 12; p++) {
      x.paper(p, 0, 0);
    }
    for (int i = 12; i < 119; i++) {
      x.entry(1 + (i - 12) / 12, 0, 0, 0, 0, 0, 0);
    }
    due("entries", x.count(2), 119);
    Tapes.put(x, Tapes.ten(9, 1, 0, 0, 0, 0));
    Tapes.put(x, Tapes.ten(0, 7, 0, 0, 0, 0));
    Tapes.put(x, Tapes.ten(0, 8, 0, 0, 0, 0));
    due("one of two to 120", x.row(11), 1);
    due("the 120th", x.of(119, 3), 7);
    due("entries then", x.count(2), 120);
  }

  /** A row changes the leasts that have been asked. */
  private static void rowIsSeen() {
    SlipTrees x = told();
    due("least of an empty list", x.least(0, 0, 0), 0);
    Tapes.put(x, Tapes.ten(0, 1, 2, 3, 4, 0));
    x.row(0);
    due("least with a row", x.least(0, 0, 0), 5);
  }

  public static void main(String[] args) {
    feedAndEnd();
    order();
    rows();
    refusedRows();
    room();
    rowIsSeen();
    CHECK.end();
  }
}
