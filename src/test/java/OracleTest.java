import java.lang.reflect.Method;
import java.util.ArrayList;
import java.util.HashMap;
import java.util.List;
import java.util.Map;
import java.util.Random;

/** Long runs of chosen calls, each answered by SlipTrees and by Plain: both must answer alike. */
public final class OracleTest {
  private static final Map<String, Method> FACE = face(SlipTrees.class);
  private static final Map<String, Method> PLAIN = face(Plain.class);

  private final Random random;
  private final SlipTrees x = new SlipTrees();
  private final Plain y = new Plain();
  private final List<String> history = new ArrayList<>();
  private final Check check;
  private final String name;
  private boolean alike = true;
  private int mostFields = 9999;
  private boolean texts = false;

  private OracleTest(int seed, Check check) {
    this.random = new Random(seed);
    this.check = check;
    this.name = "run " + seed;
  }

  private static Map<String, Method> face(Class<?> c) {
    Map<String, Method> all = new HashMap<>();
    for (Method m : c.getDeclaredMethods()) {
      m.setAccessible(true);
      all.put(m.getName(), m);
    }
    return all;
  }

  private long call(String method, int... args) {
    Object[] boxed = new Object[args.length];
    for (int i = 0; i < args.length; i++) {
      boxed[i] = args[i];
    }
    history.add(method + java.util.Arrays.toString(args));
    try {
      long got = ((Number) FACE.get(method).invoke(x, boxed)).longValue();
      long want = ((Number) PLAIN.get(method).invoke(y, boxed)).longValue();
      if (alike) {
        check.due(name + ": " + (got == want ? method : String.join(" ", history)), got, want);
      }
      alike &= got == want;
      return want;
    } catch (ReflectiveOperationException e) {
      throw new IllegalStateException(name + ": " + history, e);
    }
  }

  private int upTo(int most) {
    return random.nextInt(most + 1);
  }

  /** A number that can be, now and then one just beyond. */
  private int near(int most) {
    int of = random.nextInt(40);
    return of == 0 ? -1 : of == 1 ? most + 1 : of == 2 ? most : upTo(most);
  }

  private boolean chance(int of) {
    return random.nextInt(of) == 0;
  }

  // What is told.

  private void thing(int ghosts) {
    call("thing", field(), field(), field(), field(), near(9), chance(ghosts) ? near(1) : 0);
  }

  private int field() {
    return mostFields < 9999 ? upTo(mostFields) : near(9999);
  }

  /** A field that is often right, or a slip from what is right. */
  private int slipped(int thing, int field) {
    int was = thing >= 0 && thing < y.now.things.size() ? y.now.things.get(thing).fields()[field] : 0;
    if (mostFields < 9999) {
      return chance(2) ? was : upTo(mostFields);
    }
    return switch (random.nextInt(12)) {
      case 0 -> field();
      case 1 -> (was + 3) % 10000;
      case 2 -> was / 10;
      case 3 -> was / 100 * 100 + was % 10 * 10 + was / 10 % 10;
      case 4 -> (was + 1) % 10000;
      default -> was;
    };
  }

  private void entry(int papers, int things) {
    int paper = near(papers - 1);
    int thing = near(things - 1);
    call("entry", paper, thing, slipped(thing, 0), slipped(thing, 1), slipped(thing, 2), slipped(thing, 3), near(9));
  }

  private void row(int papers, int things) {
    int rows = 1 + random.nextInt(4);
    int[] bytes = new int[20 * rows];
    for (int i = 0; i < bytes.length; i += 10) {
      int thing = near(things - 1);
      bytes[i] = thing & 255;
      for (int f = 0; f < 4; f++) {
        int value = Math.max(0, slipped(thing, f));
        bytes[i + 1 + 2 * f] = value >> 8;
        bytes[i + 2 + 2 * f] = value & 255;
      }
      bytes[i + 9] = near(9) & 255;
    }
    put(bytes);
    if (chance(3)) {
      call("end", upTo(bytes.length));
    }
    call("row", near(papers - 1));
  }

  private void put(int[] bytes) {
    for (int i = 0; i < bytes.length; i += 20) {
      int[] five = new int[5];
      for (int k = 0; k < 20; k++) {
        five[k / 4] |= (i + k < bytes.length ? bytes[i + k] : 32) << 24 - k % 4 * 8;
      }
      call("feed", five);
    }
  }

  // Laws.

  private String pick(String... any) {
    return any[random.nextInt(any.length)];
  }

  private String part(int depth) {
    if (depth > 0 && chance(4)) {
      return "[" + sum(depth - 1) + "]";
    }
    if (chance(2)) {
      return pick("0", "1", "2", "3", "5", "7", "20", "100", "1000", "99999", "100000", "007");
    }
    return pick("field", "from", "to", "year", "years", "thing", "claim");
  }

  private String term(int depth) {
    StringBuilder s = new StringBuilder(part(depth));
    while (chance(3)) {
      s.append(pick("*", "/", " * ", " /")).append(part(depth));
    }
    return s.toString();
  }

  private String sum(int depth) {
    StringBuilder s = new StringBuilder(term(depth));
    while (chance(3)) {
      s.append(pick("+", "-", " + ", " -")).append(term(depth));
    }
    return s.toString();
  }

  private String plain(int depth) {
    if (chance(6)) {
      return "not " + plain(depth);
    }
    if (depth > 0 && chance(4)) {
      return "(" + test(depth - 1) + ")";
    }
    return chance(2) ? pick("near", "swap", "drop", "kin", "ghost")
        : sum(depth) + pick("<", ">", "=", " < ") + sum(depth);
  }

  private String test(int depth) {
    StringBuilder s = new StringBuilder(plain(depth));
    while (chance(3)) {
      s.append(pick(" or ", " and ")).append(plain(depth));
    }
    return s.toString();
  }

  private String clause() {
    String head = pick("slip", "slip", "look", "open", "birth", "bar");
    String s = head.equals("bar") ? head : head + pick(" ", "  ") + sum(2);
    return head.equals("bar") || chance(2) ? s + " if " + test(2) : s;
  }

  private String text() {
    StringBuilder s = new StringBuilder(clause());
    while (chance(2)) {
      s.append(pick(";", " ; ")).append(clause());
    }
    String all = s.toString();
    if (!chance(4)) {
      return all;
    }
    int at = random.nextInt(all.length() + 1);
    return switch (random.nextInt(4)) {
      case 0 -> all.substring(0, at);
      case 1 -> all.substring(0, at) + pick("(", ")", "[", "]", ";", "1", "x", "if", " not ", "\u00e9", "A", "\t", " ")
          + all.substring(at);
      case 2 -> all.substring(at);
      default -> all.substring(0, at) + all.substring(Math.min(all.length(), at + 1 + random.nextInt(4)));
    };
  }

  private void law() {
    String text = text();
    if (text.length() > 400) {
      text = text.substring(0, 400);
    }
    // Now and then what an earlier call has left on the tape stands ahead of the text.
    if (!chance(5)) {
      call("end", 0);
    }
    int before = y.count(4);
    put(text.chars().toArray());
    call("end", Math.min(before + text.length(), y.count(4)));
    call("law");
    call("fault");
    call("count", 4);
  }

  // Questions.

  private void askEntries(int days) {
    int e = near(Math.max(0, y.count(2) - 1));
    int f = near(Math.max(0, y.count(2) - 1));
    int day = near(days);
    switch (random.nextInt(10)) {
      case 0 -> call("of", e, near(7));
      case 1 -> call("apart", e, f, near(1));
      case 2 -> call("twice", e, f);
      case 3 -> call("alike", e, day);
      case 4, 5 -> call("from", e, day);
      case 6 -> call("drift", e, day);
      case 7 -> call("weight", e, day);
      case 8 -> call("births", near(7), day, near(4));
      default -> call("kind", field(), field());
    }
  }

  private void askPapers(int days) {
    int p = near(Math.max(0, y.count(1) - 1));
    int day = near(days);
    switch (random.nextInt(7)) {
      case 0 -> call("list", p, near(4));
      case 1 -> call("least", p, day, near(2));
      case 2 -> call("source", p, day, near(4));
      case 3 -> call("judge", p, near(random.nextInt(9)), day);
      case 4 -> call("tree", day, near(5));
      case 5 -> call("lookers", near(40), day, near(1));
      default -> call("run", p, near(Math.max(0, y.count(1) - 1)), near(1));
    }
  }

  private void any(int papers, int things, int days) {
    switch (random.nextInt(20)) {
      case 0 -> thing(4);
      case 1 -> call("paper", near(8), near(2), near(days));
      case 2, 3 -> entry(papers, things);
      case 4 -> row(papers, things);
      case 5 -> law();
      case 6 -> call("image", near(1));
      case 7 -> call("back", near(1));
      case 8 -> call("count", near(10));
      case 9 -> call("status");
      case 10 -> call("world", chance(9) ? near(1000000) : upTo(1000000), chance(6) ? near(9) : 2 + upTo(5), near(3));
      case 11 -> call("feed", random.nextInt(), random.nextInt(), random.nextInt(), random.nextInt(), random.nextInt());
      case 12 -> call("end", near(30));
      default -> {
        askEntries(days);
        askPapers(days);
      }
    }
  }

  /** Nearly as many short texts as there is room for, so that later ones find none. */
  private void allTexts() {
    for (int i = y.count(3); i < 18; i++) {
      call("end", 0);
      put((pick("slip ", "look ", "open ", "birth ") + upTo(30)).chars().toArray());
      call("law");
    }
  }

  private void run(int papers, int things, int entries, int days, int calls) {
    for (int i = 0; i < things; i++) {
      thing(4);
    }
    for (int i = 0; i < papers; i++) {
      call("paper", near(8), near(2), near(days));
    }
    for (int i = 0; i < entries; i++) {
      entry(papers, things);
    }
    for (int i = random.nextInt(4); i > 0; i--) {
      law();
    }
    if (texts) {
      allTexts();
    }
    while (history.size() < calls && alike) {
      any(papers, things, days);
    }
  }

  public static void main(String[] args) {
    Check check = new Check("OracleTest");
    int runs = args.length > 0 ? Integer.parseInt(args[0]) : 300;
    int first = args.length > 1 ? Integer.parseInt(args[1]) : 0;
    for (int seed = first; seed < first + runs && !check.anyFailed(); seed++) {
      OracleTest t = new OracleTest(seed, check);
      t.mostFields = seed % 3 == 0 ? 3 : seed % 3 == 1 ? 40 : 9999;
      t.texts = seed % 10 == 7;
      if (seed % 20 == 19) {
        t.run(16, 8, 120, 99, 320);
      } else {
        t.run(2 + seed % 6, 1 + seed % 5, 6 + seed % 21, 3, 300);
      }
    }
    check.end();
  }
}
