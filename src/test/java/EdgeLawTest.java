/** Terms II on what the laws tell, sentence by sentence: what each is asked of, what is BROKEN, what HOLDS. */
public final class EdgeLawTest {
  private static final Edge EDGE = new Edge("EdgeLawTest");
  private static final String BILLION = "100000*10000";

  private static void says(String words) {
    EDGE.says(words);
  }

  private static void due(String what, long got, long want) {
    EDGE.due(what, got, want);
  }

  private static void tell(SlipTrees x, String... laws) {
    for (String law : laws) {
      due("status of law <" + law + ">", Tapes.law(x, law) < 0 ? x.status() : 0, 0);
    }
  }

  /**
   * Thing 3 (claim 6) is right with u in each field; thing 4 is its ghost (claim 7). Paper 0 of year 200, paper 1 of
   * year 300, of one kin. Entry 0 has u in one field and is right elsewhere, entry 1 has v in that field.
   */
  private static SlipTrees told(int field, int u, int v, int thing, String... laws) {
    SlipTrees x = new SlipTrees();
    for (int t = 0; t < 3; t++) {
      x.thing(9, 9, 9, 9, 9, 0);
    }
    x.thing(u, u, u, u, 6, 0);
    x.thing(u, u, u, u, 7, 1);
    x.paper(200, 5, 0);
    x.paper(300, 5, 0);
    int[] f = {u, u, u, u};
    x.entry(0, thing, f[0], f[1], f[2], f[3], 1);
    f[field] = v;
    x.entry(1, thing, f[0], f[1], f[2], f[3], 2);
    tell(x, laws);
    return x;
  }

  /** What "slip" tells from u to v in a field of thing 3. */
  private static int slip(int field, int u, int v, String... laws) {
    return told(field, u, v, 3, laws).apart(0, 1, 1);
  }

  private static int slip(String... laws) {
    return slip(2, 1357, 1537, laws);
  }

  // What is asked of what.

  private static void slipIsAsked() {
    says("is asked of a SLIP (field: its number 0 .. 3; from, to: what it was, is; near, swap, drop: its kind; thing,"
        + " ghost, claim: of the THING)");
    for (int field = 0; field < 4; field++) {
      due("field", slip(field, 5, 6, "slip 500+field"), 500 + field);
    }
    due("from", slip(0, 1000, 17, "slip from-500"), 500);
    due("to", slip(0, 1000, 17, "slip to"), 17);
    due("from 0", slip(0, 0, 9999, "slip from+1"), 1);
    due("to 9999", slip(0, 0, 9999, "slip to-9000"), 999);
    due("thing", slip("slip thing"), 3);
    due("claim", slip("slip claim"), 6);
    int[][] kinds = {{5, 6}, {5, 50}, {50, 0}, {5, 7}};
    String[] words = {"near", "swap", "drop"};
    for (int kind = 0; kind < 4; kind++) {
      for (int word = 0; word < 3; word++) {
        due(words[word] + " of kind " + (kind + 1), slip(1, kinds[kind][0], kinds[kind][1],
            "slip 1;slip 2 if " + words[word]), word == kind ? 2 : 1);
      }
    }
    due("near alone of what is a drop, too", slip(1, 12, 2, "slip 1;slip 2 if near;slip 3 if drop"), 2);
    due("swap alone of what is a drop, too", slip(1, 20, 2, "slip 1;slip 2 if swap;slip 3 if drop"), 2);
    due("ghost of none", slip("slip 1;slip 2 if ghost"), 1);
    SlipTrees ghost = told(2, 5, 6, 4, "slip 1;slip 100+10*thing+claim if ghost");
    due("ghost, thing, claim of a ghost", ghost.apart(0, 1, 1), 147);
  }

  /** A slip is asked of alike wherever it counts: from what is right, from what an entry was. */
  private static void slipWhereverItCounts() {
    says("thing, ghost, claim: of the THING");
    SlipTrees x = told(2, 10, 30, 3, "slip 100*thing+10*claim+field+from+to", "look 500", "open 0");
    int slip = 300 + 60 + 2 + 10 + 30;
    due("apart", x.apart(0, 1, 1), slip);
    due("looked", x.judge(1, 0, 0), 500 + slip);
    due("lifted", x.judge(1, 1, 0), slip);
    due("the other way", x.apart(1, 0, 1), slip);
    x.entry(0, 3, 10, 10, 30, 10, 0);
    due("twice", x.twice(1, 2), 1 + slip);
  }

  private static void entryIsAsked() {
    says("of an ENTRY (thing, ghost, claim: the THING's; year: its PAPER's)");
    due("look's thing", look("look 500+thing"), 503);
    due("look's claim is not the entry's", look("look 500+claim"), 506);
    due("look's year", look("look 500+year"), 700);
    due("look's ghost", look("look 1;look 2 if ghost"), 1);
    due("birth's thing", birth("birth 500+thing"), 504);
    due("birth's claim", birth("birth 500+claim"), 507);
    due("birth's year", birth("birth 500+year"), 700);
    due("birth's ghost", birth("birth 1;birth 2 if ghost"), 2);
    SlipTrees x = told(0, 5, 5, 3, "look year");
    due("the year of the first", x.judge(0, 0, 0), 200);
    due("the year of the second", x.judge(1, 0, 0), 300);
  }

  private static int look(String law) {
    return told(0, 5, 6, 3, law).least(0, 0, 0);
  }

  private static int birth(String law) {
    return told(0, 5, 6, 4, law).least(0, 0, 0);
  }

  private static void pairIsAsked() {
    says("of a PAPER that lifts from another one (year: its own; years: its own less the other's; kin: they are of one"
        + " KIN)");
    due("open's year", open(5, "open 500+year"), 800);
    due("open's years", open(5, "open 500+years"), 600);
    due("open's kin", open(5, "open 1;open 2 if kin"), 2);
    due("open's kin of another", open(4, "open 1;open 2 if kin"), 1);
    due("bar's year", sources(5, "bar if year = 300"), 0);
    due("bar's year is not the other's", sources(5, "bar if year = 200"), 1);
    due("bar's years", sources(5, "bar if years = 100"), 0);
    due("bar's years are not the other way", sources(5, "bar if years < 0"), 1);
    due("bar's kin", sources(5, "bar if kin"), 0);
    due("bar's kin of another", sources(4, "bar if kin"), 1);
    due("bar if not kin", sources(4, "bar if not kin"), 0);
    SlipTrees x = new SlipTrees();
    x.thing(1, 1, 1, 1, 0, 0);
    x.paper(0, 0, 0);
    x.paper(399, 7, 0);
    x.paper(398, 0, 0);
    for (int p = 0; p < 3; p++) {
      x.entry(p, 0, 1, 1, 1, 1, 0);
    }
    tell(x, "open years;open 500 if kin");
    due("399 years", x.judge(1, 1, 0), 399);
    due("1 year", x.judge(1, 2, 0), 1);
    due("kin 0 and 0", x.judge(2, 1, 0), 500);
  }

  /** Paper 0 of kin 5 and year 200, paper 1 of a told kin and year 300. */
  private static SlipTrees pair(int kin, String law) {
    SlipTrees x = new SlipTrees();
    x.thing(1, 1, 1, 1, 6, 0);
    x.paper(200, 5, 0);
    x.paper(300, kin, 0);
    x.entry(0, 0, 1, 1, 1, 1, 0);
    x.entry(1, 0, 1, 1, 1, 1, 0);
    tell(x, law);
    return x;
  }

  private static int open(int kin, String law) {
    return pair(kin, law).judge(1, 1, 0);
  }

  private static int sources(int kin, String law) {
    return pair(kin, law).least(1, 0, 1);
  }

  private static void notAskedOf() {
    says("what it is not asked of is 0, not so.");
    int[] was = {5, 5, 50, 5};
    int[] is = {6, 50, 0, 7};
    for (int kind = 0; kind < 4; kind++) {
      due("kin of a slip of kind " + (kind + 1), slip(1, was[kind], is[kind], "slip 1;slip 2 if kin"), 1);
      due("ghost of a slip of kind " + (kind + 1), slip(1, was[kind], is[kind], "slip 1;slip 2 if ghost"), 1);
    }
    for (String word : "year years".split(" ")) {
      due(word + " of a slip", slip("slip 500+" + word), 500);
    }
    due("kin of a slip", slip("slip 1;slip 2 if kin"), 1);
    due("not kin of a slip", slip("slip 1;slip 2 if not kin"), 2);
    for (String word : "field from to years".split(" ")) {
      due(word + " of an entry that is looked", look("look 500+" + word), 500);
      due(word + " of an entry that is born", birth("birth 500+" + word), 500);
    }
    for (String word : "near swap drop kin".split(" ")) {
      due(word + " of an entry that is looked", look("look 1;look 2 if " + word), 1);
      due(word + " of an entry that is born", birth("birth 1;birth 2 if " + word), 1);
    }
    for (String word : "field from to thing claim".split(" ")) {
      due(word + " of a paper that is opened", open(5, "open 500+" + word), 500);
      due(word + " of a paper that is barred", sources(5, "bar if not " + word + " = 0"), 1);
    }
    for (String word : "near swap drop ghost".split(" ")) {
      due(word + " of a paper that is opened", open(5, "open 1;open 2 if " + word), 1);
      due(word + " of a paper that is barred", sources(5, "bar if " + word), 1);
      due("not " + word + " of a paper that is barred", sources(5, "bar if not " + word), 0);
    }
  }

  /** What one is asked of is not left from another one, asked ahead of it. */
  private static void notLeft() {
    says("what it is not asked of is 0, not so.");
    SlipTrees x = told(2, 12, 2, 3, "slip 100+year+years;slip 200 if kin", "look 300+field+from+to+years;look 1 if near"
        + " or swap or drop or kin", "open 400+thing+claim+field+from+to;open 1 if near or swap or drop or ghost");
    for (int i = 0; i < 2; i++) {
      due("lifted", x.judge(1, 1, 0), 500);
      due("looked", x.judge(1, 0, 0), 400);
      due("looked, the other", x.judge(0, 0, 0), 300);
      due("slip", x.apart(0, 1, 1), 100);
    }
    SlipTrees g = told(2, 12, 2, 4, "birth 300+field+from+to+years;birth 1 if near or kin;slip 100+year");
    due("ghost's slip", g.apart(0, 1, 1), 100);
    due("born", g.judge(1, 0, 0), 300);
    due("ghost's lifted", g.judge(1, 1, 0), 103);
    due("born", g.judge(0, 0, 0), 300);
  }

  // BROKEN.

  private static void beyond() {
    says("Beyond 1,000,000,000 either way, or divided by 0, it is BROKEN");
    due("1,000,000,000", slip("slip 7;slip " + BILLION), 1000);
    due("1,000,000,001", slip("slip 7;slip " + BILLION + "+1"), 7);
    due("-1,000,000,000", slip("slip 7;slip 0-" + BILLION), 0);
    due("-1,000,000,001", slip("slip 7;slip 0-" + BILLION + "-1"), 7);
    due("999,999,999 and 1", slip("slip 7;slip 99999*10000+9999+1"), 1000);
    due("beyond by *", slip("slip 7;slip 100000*10001"), 7);
    due("beyond by * below", slip("slip 7;slip [0-100000]*10001"), 7);
    due("-1,000,000,000 by *", slip("slip 7;slip [0-100000]*10000"), 0);
    due("beyond, though the whole is not", slip("slip 7;slip " + BILLION + "+1-" + BILLION), 7);
    due("beyond below, though the whole is not", slip("slip 7;slip 0-" + BILLION + "-1+" + BILLION), 7);
    due("beyond by *, though the whole is not", slip("slip 7;slip 100000*100000/100000"), 7);
    due("beyond in a bracket", slip("slip 7;slip 0*[" + BILLION + "*2]"), 7);
    due("4,294,967,296 and 1", slip("slip 7;slip 65536*65536+1"), 7);
    due("a billion times a billion", slip("slip 7;slip [" + BILLION + "]*[" + BILLION + "]"), 7);
    due("as much below", slip("slip 7;slip [" + BILLION + "]*[0-" + BILLION + "]"), 7);
    due("times 100,000, four times", slip("slip 7;slip 100000*100000*100000*100000"), 7);
    due("the other order", slip("slip 7;slip " + BILLION + "-" + BILLION + "+1"), 1);
    due("- of what is below", slip("slip 7;slip " + BILLION + "-[0-1]"), 7);
    due("a billion by 1", slip("slip 7;slip [" + BILLION + "]/1"), 1000);
    due("a billion by -1", slip("slip 7;slip [" + BILLION + "]/[0-1]"), 0);
    due("in a test", slip("slip 7;slip 8 if " + BILLION + "+1 > 0"), 7);
    due("not in a test", slip("slip 7;slip 8 if " + BILLION + " > 0"), 8);
    due("in a test, behind the sign", slip("slip 7;slip 8 if 0 < " + BILLION + "*2"), 7);
    due("below, in a test", slip("slip 7;slip 8 if 0-" + BILLION + "-1 < 0"), 7);
  }

  private static void dividedBy0() {
    says("or divided by 0, it is BROKEN");
    due("1/0", slip("slip 7;slip 1/0"), 7);
    due("0/0", slip("slip 7;slip 0/0"), 7);
    due("by what is 0", slip("slip 7;slip 1/[2-2]"), 7);
    due("by what is not asked of", slip("slip 7;slip 1/year"), 7);
    due("by field 0", slip(0, 5, 6, "slip 7;slip 8/field"), 7);
    due("by field 2", slip("slip 7;slip 8/field"), 4);
    due("0 times it", slip("slip 7;slip 0*[1/0]"), 7);
    due("it times 0", slip("slip 7;slip 1/0*0"), 7);
    due("0/1", slip("slip 7;slip 0/1"), 0);
    due("in a test", slip("slip 7;slip 8 if 1/0 = 1/0"), 7);
    due("in a test, turned", slip("slip 7;slip 8 if not 1/0 = 1"), 7);
    due("by 0 in both", slip("slip 7;slip 1/0 if 1/0 = 0"), 7);
  }

  private static void cutTowards0() {
    says("/ is cut towards 0.");
    due("7/2", slip("slip 100+7/2"), 103);
    due("-7/2", slip("slip 100+[0-7]/2"), 97);
    due("7/-2", slip("slip 100+7/[0-2]"), 97);
    due("-7/-2", slip("slip 100+[0-7]/[0-2]"), 103);
    due("1/2", slip("slip 100+1/2"), 100);
    due("-1/2", slip("slip 100+[0-1]/2"), 100);
    due("99,999/100,000", slip("slip 100+99999/100000"), 100);
    due("6/2", slip("slip 100+6/2"), 103);
    due("from the left", slip("slip 100/7/2"), 7);
    due("* from the left", slip("slip 7/2*2"), 6);
    due("- from the left", slip("slip 100-7-2"), 91);
    due("* ahead of -", slip("slip 100-7*2"), 86);
  }

  // A CLAUSE that HOLDS.

  private static void holds() {
    says("A CLAUSE HOLDS, if its \"if\" (if it has one) is so, and neither that nor its SUM is BROKEN");
    due("without if", slip("slip 7"), 7);
    due("if it is so", slip("slip 7 if 1=1"), 7);
    due("if it is not so", slip("slip 7 if 1=2"), 9);
    due("a sum that is BROKEN", slip("slip 1/0"), 9);
    due("a sum that is BROKEN, if it is so", slip("slip 1/0 if 1=1"), 9);
    due("a test that is BROKEN", slip("slip 7 if 1/0=1"), 9);
    for (String head : "slip look open birth bar".split(" ")) {
      boolean bar = head.equals("bar");
      String text = bar ? "bar if 1/0=1" : head + " 7;" + head + " 8 if 1/0=1;" + head + " 1/0";
      SlipTrees x = told(2, 5, 6, head.equals("birth") ? 4 : 3, text);
      int got = head.equals("slip") ? x.apart(0, 1, 1)
          : head.equals("open") ? x.judge(1, 1, 0) - 9 : bar ? x.least(1, 0, 1) : x.judge(0, 0, 0);
      due(text, got, bar ? 1 : 7);
    }
    says("\"<\" | \">\" | \"=\"");
    int[][] pairs = {{1, 2}, {2, 1}, {2, 2}, {0, 0}};
    for (int[] p : pairs) {
      due(p[0] + " < " + p[1], slip("slip 7 if " + p[0] + "<" + p[1]), p[0] < p[1] ? 7 : 9);
      due(p[0] + " > " + p[1], slip("slip 7 if " + p[0] + ">" + p[1]), p[0] > p[1] ? 7 : 9);
      due(p[0] + " = " + p[1], slip("slip 7 if " + p[0] + "=" + p[1]), p[0] == p[1] ? 7 : 9);
      due("-" + p[0] + " < -" + p[1], slip("slip 7 if 0-" + p[0] + "<0-" + p[1]), p[0] > p[1] ? 7 : 9);
    }
  }

  /** so, no and bad are tests that are so, not so, and BROKEN. */
  private static void onlyIfItMatters() {
    says("(\"or\", \"and\" ask what stands behind only if it can still matter; a part that was asked and is BROKEN"
        + " makes all of it BROKEN)");
    String[] so = ("so; not no; so or bad; no or so; so or no; so and so; no and bad or so; so or so and bad;"
        + " not (no and bad); not (no and bad and bad); (so or bad) and so; (so or bad) and (so or bad);"
        + " so and (so or bad); no or so or bad; no and bad and bad or so or bad; not not so; not (no or no);"
        + " so and so or bad; not no and so; not no or bad; no and so or so; so or no and no;"
        + " not (no or no and bad)").split("; ");
    String[] not = ("no; not so; no and bad; no or no; so and no; no and so; not (so or bad); no or no and bad;"
        + " (no and bad) or no; no and bad or no and bad; so and no and bad; not so and bad; no and (so or bad);"
        + " (so or bad) and no; not not no; (so or so) and no; no and so or no; not so or no;"
        + " not (so and so)").split("; ");
    String[] bad = ("bad; not bad; bad or so; bad and no; no or bad; so and bad; not (so and bad); not (no or bad);"
        + " no or bad or so; so and bad or so; so and bad and no; bad and no or so; not (bad or so); (no or bad) or so;"
        + " (so and bad) or so; not (not bad); no and bad or bad or so; not so or bad; not no and bad;"
        + " not bad or so").split("; ");
    for (String test : so) {
      same(test, 7);
    }
    for (String test : not) {
      same(test, 9);
      same("not (" + test + ")", 7);
    }
    for (String test : bad) {
      same(test, 9);
      same("not (" + test + ")", 9);
    }
  }

  private static void same(String test, int want) {
    String spelled = test.replace("so", "1=1").replace("no", "1=2").replace("1=2t", "not").replace("bad", "1/0=1");
    due("if " + test, slip("slip 7 if " + spelled), want);
    String words = test.replace("so", "swap").replace("no", "near").replace("neart", "not")
        .replace("bad", BILLION + "+1>from");
    due("if " + words, slip("slip 7 if " + words), want);
  }

  /** Each plain that is so, by itself and turned. */
  private static void eachPlain() {
    says("PLAIN: \"not\" PLAIN");
    for (String plain : "near 5<6 6>5 5=5 from<to to>from to=6 (near) (5<6)".split(" ")) {
      plain(plain, slip(1, 5, 6, laws("slip", plain)));
    }
    plain("swap", slip(1, 5, 50, laws("slip", "swap")));
    plain("drop", slip(1, 50, 0, laws("slip", "drop")));
    plain("ghost", told(0, 5, 6, 4, laws("birth", "ghost")).judge(0, 0, 0));
    plain("kin", told(0, 5, 5, 3, laws("open", "kin")).judge(1, 1, 0));
    plain("years = 100", told(0, 5, 5, 3, laws("open", "years = 100")).judge(1, 1, 0));
  }

  private static void plain(String plain, int got) {
    due("the last that holds of those with " + plain, got, 7);
  }

  /** Laws with a plain that is so: those that tell 1 to 7 hold, those behind them do not. */
  private static String[] laws(String head, String so) {
    String[] ifs = {so, "not not " + so, so + " and " + so, so + " or 1/0=1", "not (not " + so + ")", "1=2 or " + so,
        "1=1 and " + so, "not " + so, "not (" + so + ")", "1=2 or not " + so, "not not not " + so};
    String[] laws = new String[ifs.length];
    for (int i = 0; i < ifs.length; i++) {
      laws[i] = head + " " + (i + 1) + " if " + ifs[i];
    }
    return laws;
  }

  private static void lastThatHolds() {
    says("What a HEAD tells: of the last that HOLDS (TEXTS as told, CLAUSES in order)");
    due("the last clause", slip("slip 1;slip 2;slip 3"), 3);
    due("the last text", slip("slip 1;slip 2", "slip 3", "slip 4;slip 5"), 5);
    due("the last that holds", slip("slip 1;slip 2", "slip 3;slip 4 if near", "slip 5/0;slip 6 if kin"), 3);
    due("the first of all", slip("slip 1;slip 2 if near", "slip 3 if near;slip 4/0"), 1);
    due("ahead of other heads", slip("slip 1;look 2;open 3;birth 4;bar", "look 5", "bar"), 1);
    due("the twelfth", slip("slip 7;".repeat(11) + "slip 12"), 12);
    due("the first of twelve", slip("slip 12" + ";slip 7/0".repeat(11)), 12);
    String[] twenty = new String[20];
    for (int i = 0; i < 20; i++) {
      twenty[i] = "slip " + (100 + i);
    }
    due("the twentieth text", slip(twenty), 119);
    twenty[19] = "slip 1 if near";
    due("the nineteenth text", slip(twenty), 118);
    for (int i = 1; i < 20; i++) {
      twenty[i] = "slip 1 if near";
    }
    due("the first text of twenty", slip(twenty), 100);
  }

  private static void nearest() {
    says("0 .. 1000 (else the nearest of these)");
    String[] sums = {"0", "0-1", "0-" + BILLION, "1", "999", "1000", "1001", "100000", BILLION};
    int[] want = {0, 0, 0, 1, 999, 1000, 1000, 1000, 1000};
    for (int i = 0; i < sums.length; i++) {
      due("slip " + sums[i], slip("slip " + sums[i]), want[i]);
      due("look " + sums[i], look("look " + sums[i]), want[i]);
      due("birth " + sums[i], birth("birth " + sums[i]), want[i]);
      due("open " + sums[i], open(5, "open " + sums[i]), want[i]);
    }
  }

  private static void without() {
    says("Without one: a \"slip\" 9, a \"look\" 5, an \"open\" 3, a \"birth\" 20.");
    String[] laws = {null, "bar if near", "slip 1/0;look 1/0;open 1/0;birth 1/0",
        "slip 1 if kin;look 1 if kin;birth 1 if kin;open 1 if ghost",
        "look 1 if ghost;birth 1 if near;open 1 if not kin;slip 1 if ghost"};
    for (String law : laws) {
      String[] all = law == null ? new String[0] : new String[] {law};
      due("slip, law " + law, slip(all), 9);
      due("look, law " + law, told(0, 5, 6, 3, all).judge(0, 0, 0), 5);
      due("birth, law " + law, told(0, 5, 6, 4, all).judge(0, 0, 0), 20);
      due("open, law " + law, told(0, 5, 5, 3, all).judge(1, 1, 0), 3);
    }
    due("slip by others' laws", slip("look 1;open 2;birth 3"), 9);
    due("look by others' laws", look("slip 1;open 2;birth 3"), 5);
    due("birth by others' laws", birth("slip 1;open 2;look 3"), 20);
    due("open by others' laws", open(5, "slip 1;birth 2;look 3"), 3);
    due("no bar by others' laws", sources(5, "slip 1;birth 2;look 3;open 4"), 1);
  }

  public static void main(String[] args) {
    slipIsAsked();
    slipWhereverItCounts();
    entryIsAsked();
    pairIsAsked();
    notAskedOf();
    notLeft();
    beyond();
    dividedBy0();
    cutTowards0();
    holds();
    onlyIfItMatters();
    eachPlain();
    lastThatHolds();
    nearest();
    without();
    EDGE.end();
  }
}
