/** Promise 25: the longest row of things that stands in two lists. */
public final class RunTest {
  private static final Check CHECK = new Check("RunTest");

  private static SlipTrees told(String... lists) {
    SlipTrees x = new SlipTrees();
    for (int t = 0; t < 8; t++) {
      x.thing(t, t, t, t, 0, t % 2);
    }
    for (int p = 0; p < lists.length; p++) {
      x.paper(5, 0, 50);
      for (char c : lists[p].toCharArray()) {
        x.entry(p, c - 'a', p, 0, 0, 0, 0);
      }
    }
    return x;
  }

  private static void run(String a, String b, int length, int place) {
    SlipTrees x = told(a, b);
    CHECK.due("length of " + a + ", " + b, x.run(0, 1, 0), length);
    CHECK.due("place of " + a + ", " + b, x.run(0, 1, 1), place);
    CHECK.due("length of " + b + ", " + a, x.run(1, 0, 0), length);
  }

  public static void main(String[] args) {
    run("", "", 0, -1);
    run("", "a", 0, -1);
    run("a", "", 0, -1);
    run("a", "b", 0, -1);
    run("a", "a", 1, 0);
    run("ba", "ab", 1, 0);
    run("cba", "ab", 1, 1);
    run("abc", "abc", 3, 0);
    run("xabc".substring(1), "habch", 3, 0);
    run("habch", "abc", 3, 1);
    run("abcdef", "abdef", 3, 3);
    run("abab", "bab", 3, 1);
    run("cdab", "abcd", 2, 0);
    run("aaaa", "aa", 2, 0);
    run("aab", "ab", 2, 1);
    run("abgcd", "cdfab", 2, 0);
    run("acb", "ab", 1, 0);
    run("abcabcabcabc", "abcabcabcabc", 12, 0);
    run("hgfedcbaaaab", "gggggggggaab", 3, 9);
    SlipTrees x = told("abc", "cab", "b");
    CHECK.due("run(1, 0, 1)", x.run(1, 0, 1), 1);
    CHECK.due("run(0, 2, 1)", x.run(0, 2, 1), 1);
    CHECK.due("run(2, 0, 1)", x.run(2, 0, 1), 0);
    CHECK.due("one paper", x.run(0, 0, 0), -1);
    CHECK.due("one paper", x.run(1, 1, 1), -1);
    CHECK.due("no paper", x.run(0, 3, 0), -1);
    CHECK.due("no paper", x.run(3, 0, 0), -1);
    CHECK.due("no paper", x.run(-1, 0, 0), -1);
    CHECK.due("no papers", x.run(-1, 3, 0), -1);
    CHECK.due("what -1", x.run(0, 1, -1), -1);
    CHECK.due("what 2", x.run(0, 1, 2), -1);
    CHECK.end();
  }
}
