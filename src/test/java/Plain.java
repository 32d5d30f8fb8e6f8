import java.util.ArrayList;
import java.util.Arrays;
import java.util.HashMap;
import java.util.List;
import java.util.Map;
import java.util.TreeMap;

/**
 * The document once more, written for nothing but to be compared with: every answer is found anew,
 * by trying all ways. It has the face of SlipTrees.
 */
final class Plain {
  static final int NONE = -1;

  record Thing(int[] fields, int claim, boolean ghost) { }
  record Entry(int number, int paper, int place, int thing, int[] fields, int claim) { }
  record Paper(int year, int kin, int seen, List<Entry> list) { }
  record Clause(String head, Node sum, Node test) { }

  /** All that an image keeps. */
  static final class State {
    List<Thing> things = new ArrayList<>();
    List<Paper> papers = new ArrayList<>();
    List<Entry> entries = new ArrayList<>();
    List<List<Clause>> laws = new ArrayList<>();

    State copy() {
      State s = new State();
      s.things.addAll(things);
      s.laws.addAll(laws);
      s.entries.addAll(entries);
      for (Paper p : papers) {
        s.papers.add(new Paper(p.year, p.kin, p.seen, new ArrayList<>(p.list)));
      }
      return s;
    }
  }

  State now = new State();
  State[] images = new State[2];
  List<Integer> tape = new ArrayList<>();
  Map<Integer, Integer> refused = new HashMap<>();
  int status = 0;
  int fault = NONE;

  // Telling.

  int no(int why) {
    status = why;
    refused.merge(why, 1, Integer::sum);
    return why;
  }

  int yes(int answer) {
    status = 0;
    return answer;
  }

  static boolean out(int n, int most) {
    return n < 0 || n > most;
  }

  static boolean badFields(int... fields) {
    for (int f : fields) {
      if (out(f, 9999)) {
        return true;
      }
    }
    return false;
  }

  int thing(int a, int b, int c, int d, int claim, int ghost) {
    if (badFields(a, b, c, d) || out(claim, 9) || out(ghost, 1)) {
      return no(-1);
    }
    if (now.things.size() == 8) {
      return no(-5);
    }
    now.things.add(new Thing(new int[] {a, b, c, d}, claim, ghost == 1));
    return yes(now.things.size() - 1);
  }

  int paper(int year, int kin, int seen) {
    if (out(year, 399) || out(kin, 7) || out(seen, 99)) {
      return no(-1);
    }
    if (now.papers.size() == 16) {
      return no(-5);
    }
    now.papers.add(new Paper(year, kin, seen, new ArrayList<>()));
    return yes(now.papers.size() - 1);
  }

  boolean isPaper(int p) {
    return p >= 0 && p < now.papers.size();
  }

  boolean isThing(int t) {
    return t >= 0 && t < now.things.size();
  }

  boolean isEntry(int e) {
    return e >= 0 && e < now.entries.size();
  }

  static void put(State s, int paper, int thing, int[] fields, int claim) {
    Paper p = s.papers.get(paper);
    Entry e = new Entry(s.entries.size(), paper, p.list.size(), thing, fields, claim);
    s.entries.add(e);
    p.list.add(e);
  }

  int entry(int paper, int thing, int a, int b, int c, int d, int claim) {
    if (badFields(a, b, c, d) || out(claim, 9)) {
      return no(-1);
    }
    if (!isPaper(paper) || !isThing(thing)) {
      return no(-2);
    }
    if (now.entries.size() == 120 || now.papers.get(paper).list.size() == 12) {
      return no(-5);
    }
    put(now, paper, thing, new int[] {a, b, c, d}, claim);
    return yes(now.entries.size() - 1);
  }

  int row(int paper) {
    if (!isPaper(paper)) {
      tape.clear();
      return no(-2);
    }
    if (tape.isEmpty()) {
      return no(-6);
    }
    int before = now.entries.size();
    for (int i = 0; i + 9 < tape.size(); i += 10) {
      List<Integer> ten = tape.subList(i, i + 10);
      int[] f = new int[4];
      for (int k = 0; k < 4; k++) {
        f[k] = ten.get(1 + 2 * k) << 8 | ten.get(2 + 2 * k);
      }
      boolean room = now.entries.size() < 120 && now.papers.get(paper).list.size() < 12;
      if (room && isThing(ten.get(0)) && !badFields(f) && !out(ten.get(9), 9)) {
        put(now, paper, ten.get(0), f, ten.get(9));
      }
    }
    tape.clear();
    return yes(now.entries.size() - before);
  }

  int of(int entry, int what) {
    if (!isEntry(entry) || out(what, 7)) {
      return NONE;
    }
    Entry e = now.entries.get(entry);
    return switch (what) {
      case 0 -> e.paper;
      case 1 -> e.place;
      case 2 -> e.thing;
      case 7 -> e.claim;
      default -> e.fields[what - 3];
    };
  }

  int list(int paper, int i) {
    if (!isPaper(paper)) {
      return NONE;
    }
    List<Entry> list = now.papers.get(paper).list;
    if (i == NONE) {
      return list.size();
    }
    return i >= 0 && i < list.size() ? list.get(i).number : NONE;
  }

  int feed(int a, int b, int c, int d, int e) {
    if (tape.size() > 380) {
      return NONE;
    }
    for (int n : new int[] {a, b, c, d, e}) {
      tape.addAll(List.of(n >>> 24, n >>> 16 & 255, n >>> 8 & 255, n & 255));
    }
    return tape.size();
  }

  int end(int n) {
    if (n < 0 || n > tape.size()) {
      return NONE;
    }
    tape = new ArrayList<>(tape.subList(0, n));
    return n;
  }

  int law() {
    StringBuilder text = new StringBuilder();
    tape.forEach(b -> text.append((char) (int) b));
    tape.clear();
    if (now.laws.size() == 20) {
      return no(-5);
    }
    try {
      now.laws.add(new Parser(text.toString()).text());
      fault = NONE;
    } catch (Faulty f) {
      fault = f.place;
      return no(-6);
    }
    return yes(now.laws.size() - 1);
  }

  int fault() {
    return fault;
  }

  // The language.

  static final class Faulty extends RuntimeException {
    final int place;

    Faulty(int place) {
      super(null, null, false, false);
      this.place = place;
    }
  }

  static final class Broken extends RuntimeException {
    Broken() {
      super(null, null, false, false);
    }
  }

  record Token(String text, int place) { }

  interface Node {
    long ask(Map<String, Long> asked);
  }

  static final class Parser {
    final List<Token> tokens = new ArrayList<>();
    int at = 0;
    int leaves = 0;

    Parser(String s) {
      int i = 0;
      while (i < s.length()) {
        int j = i + 1;
        String c = s.substring(i, j);
        if (c.equals(" ")) {
          i++;
          continue;
        }
        for (String set : new String[] {"[a-z]+", "[0-9]+"}) {
          while (j < s.length() && c.matches(set) && s.substring(i, j + 1).matches(set)) {
            j++;
          }
        }
        tokens.add(new Token(s.substring(i, j), i));
        i = j;
      }
      tokens.add(new Token("", s.length()));
    }

    String peek() {
      return tokens.get(at).text;
    }

    boolean eat(String... any) {
      if (Arrays.asList(any).contains(peek())) {
        at++;
        return true;
      }
      return false;
    }

    String last() {
      return tokens.get(at - 1).text;
    }

    void need(boolean so) {
      if (!so) {
        throw new Faulty(tokens.get(at).place);
      }
    }

    List<Clause> text() {
      List<Clause> all = new ArrayList<>();
      do {
        need(all.size() < 12);
        need(eat("slip", "look", "open", "birth", "bar"));
        String head = last();
        Node sum = head.equals("bar") ? null : sum(0);
        Node test = eat("if") ? test(0) : null;
        all.add(new Clause(head, sum, test));
      } while (eat(";"));
      need(peek().isEmpty());
      return all;
    }

    Node test(int depth) {
      Node left = both(depth);
      while (eat("or")) {
        Node a = left;
        Node b = both(depth);
        left = m -> a.ask(m) == 1 ? 1 : b.ask(m);
      }
      return left;
    }

    Node both(int depth) {
      Node left = plain(depth);
      while (eat("and")) {
        Node a = left;
        Node b = plain(depth);
        left = m -> a.ask(m) == 0 ? 0 : b.ask(m);
      }
      return left;
    }

    Node plain(int depth) {
      if (eat("not")) {
        Node a = plain(depth);
        return m -> a.ask(m) == 1 ? 0 : 1;
      }
      if (peek().equals("(")) {
        need(depth < 8);
        at++;
        Node a = test(depth + 1);
        need(eat(")"));
        return a;
      }
      if (List.of("near", "swap", "drop", "kin", "ghost").contains(peek())) {
        return leaf();
      }
      Node a = sum(depth);
      need(eat("<", ">", "="));
      String sign = last();
      Node b = sum(depth);
      return m -> {
        int c = Long.compare(a.ask(m), b.ask(m));
        return (sign.equals("<") ? c < 0 : sign.equals(">") ? c > 0 : c == 0) ? 1 : 0;
      };
    }

    Node sum(int depth) {
      Node left = term(depth);
      while (eat("+", "-")) {
        Node a = left;
        int way = last().equals("+") ? 1 : -1;
        Node b = term(depth);
        left = m -> whole(a.ask(m) + way * b.ask(m));
      }
      return left;
    }

    Node term(int depth) {
      Node left = part(depth);
      while (eat("*", "/")) {
        Node a = left;
        boolean times = last().equals("*");
        Node b = part(depth);
        left = m -> {
          long x = a.ask(m);
          long y = b.ask(m);
          if (!times && y == 0) {
            throw new Broken();
          }
          return whole(times ? x * y : Math.abs(x) / Math.abs(y) * Long.signum(x) * Long.signum(y));
        };
      }
      return left;
    }

    static long whole(long x) {
      if (Math.abs(x) > 1000000000L) {
        throw new Broken();
      }
      return x;
    }

    Node part(int depth) {
      if (peek().equals("[")) {
        need(depth < 8);
        at++;
        Node a = sum(depth + 1);
        need(eat("]"));
        return a;
      }
      boolean word = List.of("field", "from", "to", "year", "years", "thing", "claim").contains(peek());
      need(word || peek().matches("0*[0-9]{1,5}|0*100000"));
      return leaf();
    }

    Node leaf() {
      need(leaves < 50);
      leaves++;
      String word = peek();
      at++;
      if (word.matches("[0-9]+")) {
        long n = Long.parseLong(word.replaceFirst("^0+(?=.)", ""));
        return m -> n;
      }
      return m -> m.getOrDefault(word, 0L);
    }
  }

  static Integer tells(State s, String head, Map<String, Long> asked) {
    Integer told = null;
    for (List<Clause> text : s.laws) {
      for (Clause c : text) {
        if (!c.head.equals(head)) {
          continue;
        }
        try {
          if (c.test == null || c.test.ask(asked) == 1) {
            told = c.sum == null ? 0 : (int) Math.min(1000, Math.max(0, c.sum.ask(asked)));
          }
        } catch (Broken b) {
          continue;
        }
      }
    }
    return told;
  }

  static int or(Integer told, int other) {
    return told == null ? other : told;
  }

  static Map<String, Long> askThing(State s, int thing) {
    Map<String, Long> m = new HashMap<>();
    m.put("thing", (long) thing);
    m.put("claim", (long) s.things.get(thing).claim);
    m.put("ghost", s.things.get(thing).ghost ? 1L : 0L);
    return m;
  }

  static int slip(State s, int thing, int field, int was, int is) {
    Map<String, Long> m = askThing(s, thing);
    m.put("field", (long) field);
    m.put("from", (long) was);
    m.put("to", (long) is);
    m.put(List.of("same", "near", "swap", "drop", "other").get(kindOf(was, is)), 1L);
    return or(tells(s, "slip", m), 9);
  }

  static int slips(State s, int thing, int[] was, int[] is) {
    int sum = 0;
    for (int f = 0; f < 4; f++) {
      sum += was[f] == is[f] ? 0 : slip(s, thing, f, was[f], is[f]);
    }
    return sum;
  }

  /** LOOKED or BORN. */
  static int made(State s, Entry e) {
    Map<String, Long> m = askThing(s, e.thing);
    m.put("year", (long) s.papers.get(e.paper).year);
    Thing t = s.things.get(e.thing);
    return t.ghost ? or(tells(s, "birth", m), 20) : or(tells(s, "look", m), 5) + slips(s, e.thing, t.fields, e.fields);
  }

  static Map<String, Long> askPapers(State s, int p, int q) {
    Map<String, Long> m = new HashMap<>();
    m.put("year", (long) s.papers.get(p).year);
    m.put("years", (long) s.papers.get(p).year - s.papers.get(q).year);
    m.put("kin", s.papers.get(p).kin == s.papers.get(q).kin ? 1L : 0L);
    return m;
  }

  // Slips.

  static String four(int n) {
    return String.format("%04d", n);
  }

  static int kindOf(int u, int v) {
    if (u == v) {
      return 0;
    }
    String a = four(u);
    String b = four(v);
    List<Integer> gaps = new ArrayList<>();
    for (int i = 0; i < 4; i++) {
      if (a.charAt(i) != b.charAt(i)) {
        gaps.add(Math.abs(a.charAt(i) - b.charAt(i)));
      }
    }
    if (gaps.size() == 1 && List.of(1, 3).contains(gaps.get(0))) {
      return 1;
    }
    for (int i = 0; i < 3; i++) {
      if (b.equals(a.substring(0, i) + a.charAt(i + 1) + a.charAt(i) + a.substring(i + 2))) {
        return 2;
      }
    }
    String digits = Integer.toString(u);
    for (int i = 0; i < digits.length() && u >= 10; i++) {
      if (Integer.parseInt(digits.substring(0, i) + digits.substring(i + 1)) == v) {
        return 3;
      }
    }
    return 4;
  }

  int kind(int u, int v) {
    return out(u, 9999) || out(v, 9999) ? NONE : kindOf(u, v);
  }

  int apart(int a, int b, int what) {
    if (!isEntry(a) || !isEntry(b) || out(what, 1) || of(a, 2) != of(b, 2)) {
      return NONE;
    }
    if (what == 1) {
      return slips(now, of(a, 2), now.entries.get(a).fields, now.entries.get(b).fields);
    }
    int unlike = 0;
    for (int k = 3; k < 7; k++) {
      unlike += of(a, k) != of(b, k) ? 1 : 0;
    }
    return unlike;
  }

  long twice(int a, int b) {
    if (!isEntry(a) || !isEntry(b) || a == b || of(a, 2) != of(b, 2)) {
      return NONE;
    }
    long product = 1;
    for (int f = 0; f < 4; f++) {
      int right = now.things.get(of(a, 2)).fields[f];
      int is = of(a, 3 + f);
      if (is == of(b, 3 + f) && is != right) {
        product *= 1L + slip(now, of(a, 2), f, right, is);
      }
    }
    return product;
  }

  int alike(int entry, int day) {
    if (!isEntry(entry) || out(day, 99)) {
      return NONE;
    }
    Entry e = now.entries.get(entry);
    return (int) now.entries.stream()
        .filter(f -> now.papers.get(f.paper).seen <= day)
        .filter(f -> f.thing == e.thing && Arrays.equals(f.fields, e.fields)).count();
  }

  // Leasts.

  static List<Integer> sources(State s, int p, int day) {
    List<Integer> found = new ArrayList<>();
    Paper paper = s.papers.get(p);
    for (int q = 0; q < s.papers.size(); q++) {
      Paper other = s.papers.get(q);
      boolean shares = other.list.stream().anyMatch(e -> paper.list.stream().anyMatch(f -> f.thing == e.thing));
      if (other.seen <= day && other.year < paper.year && shares
          && tells(s, "bar", askPapers(s, p, q)) == null && found.size() < 9) {
        found.add(q);
      }
    }
    return found;
  }

  /** What lifting one entry costs at least with some sources; -1 if it can't be. The entry is put into from[0]. */
  static int lift(State s, Entry e, List<Integer> chosen, int[] from) {
    int best = -1;
    for (int q : chosen) {
      for (Entry f : s.papers.get(q).list) {
        if (f.thing == e.thing) {
          int costs = slips(s, e.thing, f.fields, e.fields);
          if (best < 0 || costs < best) {
            best = costs;
            from[0] = f.number;
          }
        }
      }
    }
    return best;
  }

  static List<Integer> choose(List<Integer> sources, int bits) {
    List<Integer> chosen = new ArrayList<>();
    for (int i = 0; i < sources.size(); i++) {
      if ((bits >> i & 1) == 1) {
        chosen.add(sources.get(i));
      }
    }
    return chosen;
  }

  static int opens(State s, int p, List<Integer> chosen) {
    int sum = 0;
    for (int q : chosen) {
      sum += or(tells(s, "open", askPapers(s, p, q)), 3);
    }
    return sum;
  }

  static int sumWith(State s, int p, List<Integer> chosen, Map<Integer, Integer> origins) {
    int sum = opens(s, p, chosen);
    for (Entry e : s.papers.get(p).list) {
      int[] from = {NONE};
      int lift = lift(s, e, chosen, from);
      int made = made(s, e);
      boolean lifted = lift >= 0 && lift < made;
      sum += lifted ? lift : made;
      origins.put(e.number, lifted ? from[0] : NONE);
    }
    return sum;
  }

  record Least(int sum, int bits, int sources, Map<Integer, Integer> origins) { }

  static Least leastOf(State s, int p, int day) {
    List<Integer> sources = sources(s, p, day);
    Least best = null;
    for (int bits = 0; bits < 1 << sources.size(); bits++) {
      Map<Integer, Integer> origins = new TreeMap<>();
      int sum = sumWith(s, p, choose(sources, bits), origins);
      Least l = new Least(sum, bits, sources.size(), origins);
      if (best == null || sum < best.sum
          || sum == best.sum && Integer.bitCount(bits) < Integer.bitCount(best.bits)) {
        best = l;
      }
    }
    return best;
  }

  static boolean seen(State s, int p, int day) {
    return p >= 0 && p < s.papers.size() && !out(day, 99) && s.papers.get(p).seen <= day;
  }

  int least(int p, int day, int what) {
    if (!seen(now, p, day) || out(what, 2)) {
      return NONE;
    }
    Least l = leastOf(now, p, day);
    return what == 0 ? l.sum : what == 1 ? l.sources : l.bits;
  }

  int source(int p, int day, int i) {
    if (!seen(now, p, day)) {
      return NONE;
    }
    List<Integer> sources = sources(now, p, day);
    return i >= 0 && i < sources.size() ? sources.get(i) : NONE;
  }

  int from(int entry, int day) {
    if (!isEntry(entry) || !seen(now, of(entry, 0), day)) {
      return -2;
    }
    return leastOf(now, of(entry, 0), day).origins.get(entry);
  }

  int judge(int p, int bits, int day) {
    if (!seen(now, p, day)) {
      return NONE;
    }
    List<Integer> sources = sources(now, p, day);
    if (bits < 0 || bits >= 1 << sources.size()) {
      return NONE;
    }
    return sumWith(now, p, choose(sources, bits), new HashMap<>());
  }

  static Map<Integer, Integer> origins(State s, int day) {
    Map<Integer, Integer> all = new TreeMap<>();
    for (int p = 0; p < s.papers.size(); p++) {
      if (seen(s, p, day)) {
        all.putAll(leastOf(s, p, day).origins);
      }
    }
    return all;
  }

  static int treeSum(State s, int day) {
    int sum = 0;
    for (int p = 0; p < s.papers.size(); p++) {
      sum += seen(s, p, day) ? leastOf(s, p, day).sum : 0;
    }
    return sum;
  }

  int tree(int day, int what) {
    if (out(day, 99) || out(what, 5)) {
      return NONE;
    }
    if (what == 0) {
      return treeSum(now, day);
    }
    int[] found = new int[6];
    origins(now, day).forEach((e, from) -> {
      Thing t = now.things.get(of(e, 2));
      found[from != NONE ? 2 : t.ghost ? 3 : 1]++;
      for (int f = 0; f < 4 && from != NONE; f++) {
        boolean is = of(e, 3 + f) == t.fields[f];
        boolean was = of(from, 3 + f) == t.fields[f];
        found[4] += is && !was ? 1 : 0;
        found[5] += was && !is ? 1 : 0;
      }
    });
    return found[what];
  }

  int lookers(int slack, int day, int what) {
    if (out(slack, 40) || out(day, 99) || out(what, 1)) {
      return NONE;
    }
    // How many are looked: the least sum of all ways with so many.
    TreeMap<Integer, Integer> all = new TreeMap<>(Map.of(0, 0));
    for (int p = 0; p < now.papers.size(); p++) {
      if (seen(now, p, day)) {
        all = both(all, ways(p, sources(now, p, day)));
      }
    }
    int bound = treeSum(now, day) + slack;
    List<Integer> can = all.entrySet().stream().filter(e -> e.getValue() <= bound).map(Map.Entry::getKey).toList();
    return can.get(what == 0 ? 0 : can.size() - 1);
  }

  static TreeMap<Integer, Integer> both(Map<Integer, Integer> a, Map<Integer, Integer> b) {
    TreeMap<Integer, Integer> sums = new TreeMap<>();
    a.forEach((i, x) -> b.forEach((j, y) -> sums.merge(i + j, x + y, Math::min)));
    return sums;
  }

  /** Each way alone: each set of sources, and each entry looked or lifted. */
  TreeMap<Integer, Integer> ways(int p, List<Integer> sources) {
    TreeMap<Integer, Integer> all = new TreeMap<>();
    List<Entry> list = now.papers.get(p).list;
    for (int bits = 0; bits < 1 << sources.size(); bits++) {
      List<Integer> chosen = choose(sources, bits);
      TreeMap<Integer, Integer> sums = new TreeMap<>(Map.of(0, opens(now, p, chosen)));
      for (Entry e : list) {
        TreeMap<Integer, Integer> one = new TreeMap<>();
        one.put(now.things.get(e.thing).ghost ? 0 : 1, made(now, e));
        int lift = lift(now, e, chosen, new int[1]);
        if (lift >= 0) {
          one.merge(0, lift, Math::min);
        }
        sums = both(sums, one);
      }
      sums.forEach((k, v) -> all.merge(k, v, Math::min));
    }
    return all;
  }

  int births(int thing, int day, int i) {
    if (!isThing(thing) || !now.things.get(thing).ghost || out(day, 99)) {
      return NONE;
    }
    List<Integer> born = new ArrayList<>();
    origins(now, day).forEach((e, from) -> {
      if (from == NONE && of(e, 2) == thing) {
        born.add(e);
      }
    });
    return i == NONE ? born.size() : i >= 0 && i < born.size() ? born.get(i) : NONE;
  }

  int drift(int entry, int day) {
    int from = from(entry, day);
    if (from == -2) {
      return -100;
    }
    Thing t = now.things.get(of(entry, 2));
    return from != NONE ? of(entry, 7) - of(from, 7) : t.ghost ? 0 : of(entry, 7) - t.claim;
  }

  int weight(int entry, int day) {
    if (!isEntry(entry) || !seen(now, of(entry, 0), day)) {
      return NONE;
    }
    Map<Integer, Integer> origins = origins(now, day);
    int come = 0;
    for (int e : origins.keySet()) {
      for (int f = origins.get(e); f != NONE; f = origins.get(f)) {
        come += f == entry ? 1 : 0;
      }
    }
    return come;
  }

  int run(int a, int b, int what) {
    if (!isPaper(a) || !isPaper(b) || a == b || out(what, 1)) {
      return NONE;
    }
    List<Integer> one = now.papers.get(a).list.stream().map(e -> e.thing).toList();
    List<Integer> two = now.papers.get(b).list.stream().map(e -> e.thing).toList();
    for (int length = one.size(); length > 0; length--) {
      for (int i = 0; i + length <= one.size(); i++) {
        for (int j = 0; j + length <= two.size(); j++) {
          if (one.subList(i, i + length).equals(two.subList(j, j + length))) {
            return what == 0 ? length : i;
          }
        }
      }
    }
    return what == 0 ? 0 : NONE;
  }

  // Worlds.

  long state;

  int draw(int n) {
    state = (state * 1103 + 12345) % 1000003;
    return (int) (state % n);
  }

  int world(int seed, int papers, int what) {
    boolean any = now.things.stream().anyMatch(t -> !t.ghost);
    if (out(seed, 1000000) || papers < 2 || papers > 8 || out(what, 3) || !any) {
      return NONE;
    }
    State w = new State();
    w.things = now.things;
    w.laws = now.laws;
    state = seed;
    List<Integer> from = new ArrayList<>();
    for (int k = 0; k < papers; k++) {
      w.papers.add(new Paper(k, draw(2), 0, new ArrayList<>()));
      for (int t = 0; t < w.things.size(); t++) {
        int thing = t;
        if (w.things.get(t).ghost || draw(3) == 0) {
          continue;
        }
        List<Entry> having = w.entries.stream().filter(e -> e.thing == thing).toList();
        boolean looked = k == 0 || draw(4) == 0 || having.isEmpty();
        Entry origin = looked ? null : having.get(draw(having.size()));
        int[] fields = (looked ? w.things.get(t).fields : origin.fields).clone();
        if (draw(6) == 0) {
          int f = draw(4);
          fields[f] = (fields[f] * 7 + draw(10000)) % 10000;
        }
        put(w, k, t, fields, w.things.get(t).claim);
        from.add(looked ? NONE : origin.number);
      }
    }
    if (what == 0) {
      return w.entries.size();
    }
    if (what == 2) {
      return (int) from.stream().filter(f -> f == NONE).count();
    }
    if (what == 3) {
      return treeSum(w, 0);
    }
    Map<Integer, Integer> found = origins(w, 0);
    return (int) found.keySet().stream().filter(e -> found.get(e).equals(from.get(e))).count();
  }

  // Images and counts.

  int image(int k) {
    if (out(k, 1)) {
      return no(-1);
    }
    images[k] = now.copy();
    return yes(0);
  }

  int back(int k) {
    if (out(k, 1)) {
      return no(-1);
    }
    if (images[k] == null) {
      return no(-2);
    }
    now = images[k].copy();
    return yes(0);
  }

  int count(int what) {
    return switch (what) {
      case 0 -> now.things.size();
      case 1 -> now.papers.size();
      case 2 -> now.entries.size();
      case 3 -> now.laws.size();
      case 4 -> tape.size();
      case 5 -> refused.getOrDefault(-1, 0);
      case 6 -> refused.getOrDefault(-2, 0);
      case 7 -> refused.getOrDefault(-3, 0);
      case 8 -> refused.getOrDefault(-5, 0);
      case 9 -> refused.getOrDefault(-6, 0);
      default -> NONE;
    };
  }

  int status() {
    return status;
  }
}
