/** Puts texts and rows on the tape of a SlipTrees. */
final class Tapes {
  private Tapes() { }

  /** Feeds just these bytes behind the tape. */
  static void put(SlipTrees x, int... bytes) {
    int before = x.count(4);
    int most = (bytes.length + 19) / 20 * 20;
    int[] numbers = new int[most / 4];
    for (int i = 0; i < bytes.length; i++) {
      numbers[i / 4] |= bytes[i] << 24 - i % 4 * 8;
    }
    for (int i = 0; i < numbers.length; i += 5) {
      x.feed(numbers[i], numbers[i + 1], numbers[i + 2], numbers[i + 3], numbers[i + 4]);
    }
    x.end(before + bytes.length);
  }

  static void text(SlipTrees x, String text) {
    put(x, text.chars().toArray());
  }

  static int law(SlipTrees x, String text) {
    text(x, text);
    return x.law();
  }

  /** Law, then FAULT. */
  static int fault(SlipTrees x, String text) {
    law(x, text);
    return x.fault();
  }

  /** A row's ten bytes. */
  static int[] ten(int thing, int a, int b, int c, int d, int claim) {
    return new int[] {thing, a >> 8, a & 255, b >> 8, b & 255, c >> 8, c & 255, d >> 8, d & 255, claim};
  }
}
