/** Promises 10 and 11 and Terms II: the language of the laws, its faults, and what heads tell. */
public final class LawTest {
  private static final Check CHECK = new Check("LawTest");

  private static void due(String what, long got, long want) {
    CHECK.due(what, got, want);
  }

  private static void fault(String text, int want) {
    SlipTrees x = new SlipTrees();
    Tapes.text(x, text);
    due("law " + text, x.law(), want < 0 ? 0 : -6);
    due("fault of " + text, x.fault(), want);
    due("texts after " + text, x.count(3), want < 0 ? 1 : 0);
    due("tape after " + text, x.count(4), 0);
    due("status after " + text, x.status(), want < 0 ? 0 : -6);
    due("refused after " + text, x.count(9), want < 0 ? 0 : 1);
  }

  private static void good(String text) {
    fault(text, -1);
  }

  private static void heads() {
    good("slip 1");
    good("look 1");
    good("open 1");
    good("birth 1");
    good("bar");
    good("bar if near");
    good("   bar   ");
    good("slip1if1=1;bar;look[1]");
    fault("", 0);
    fault("     ", 5);
    fault("cost 1", 0);
    fault("  Bar", 2);
    fault("bars", 0);
    fault("barz", 0);
    fault("abar", 0);
    fault("BAR", 0);
    fault("bar{", 3);
    fault("bar`", 3);
    fault("slip 1:", 6);
    fault("ba r", 0);
    fault("if", 0);
    fault(";", 0);
    fault("bar;", 4);
    fault("bar ; ", 6);
    fault("bar;;bar", 4);
    fault("bar bar", 4);
    fault("bar 5", 4);
    fault("bar if", 6);
    fault("bar if if", 7);
    fault("slip", 4);
    fault("slip if near", 5);
    fault("slip 1 2", 7);
    fault("slip 1 near", 7);
    fault("slip 1 and", 7);
    fault("slip 1,bar", 6);
    fault("bar if near if near", 12);
    fault("bar\tif near", 3);
    fault("bar if near\u00e9", 11);
    fault("\u00ff", 0);
  }

  private static void tests() {
    good("bar if not near");
    good("bar if not not not(near or swap)and drop or kin and not ghost");
    good("bar if 1<2 and 2>1 or 1=1");
    good("bar if [field]+1*2/3-4<from+to+year+years+thing+claim");
    good("bar if ((near))");
    fault("bar if near near", 12);
    fault("bar if near + 1", 12);
    fault("bar if near = 1", 12);
    fault("bar if 1", 8);
    fault("bar if 1 and near", 9);
    fault("bar if 1 < 2 < 3", 13);
    fault("bar if 1 <", 10);
    fault("bar if 1 < ; bar", 11);
    fault("bar if [1] = and near", 13);
    fault("bar if slip 1", 7);
    fault("bar if claim", 12);
    fault("bar if bar", 7);
    fault("bar if 1 < near", 11);
    fault("bar if (near", 12);
    fault("bar if (near]", 12);
    fault("bar if (1) = 1", 9);
    fault("bar if (near) + 1", 14);
    fault("bar if [near]", 8);
    fault("bar if [1=1]", 9);
    fault("bar if ()", 8);
    fault("bar if not", 10);
    fault("bar if near or", 14);
    fault("bar if near and ;", 16);
    fault("bar if or near", 7);
    fault("bar if near)", 11);
    fault("bar if 1 == 1", 10);
    fault("bar if 1 <> 1", 10);
  }

  private static void sums() {
    good("slip 0");
    good("slip 100000");
    good("slip 000000000000100000");
    fault("slip 100001", 5);
    fault("slip 99999999999999999999999", 5);
    good("slip from+to*2-field/3");
    fault("slip -1", 5);
    fault("slip +", 5);
    fault("slip 1 +", 8);
    fault("slip 1 + + 2", 9);
    fault("slip 1 * ", 9);
    fault("slip (1)", 5);
    fault("slip near", 5);
    fault("slip 1 + near", 9);
    fault("slip []", 6);
    fault("slip [1", 7);
    fault("slip [1)", 7);
    fault("slip 1]", 6);
    fault("slip fields", 5);
    fault("slip yea r", 5);
    fault("slip year s", 10);
    fault("slip 12a", 7);
    fault("slip 1.5", 6);
  }

  private static void limits() {
    String twelve = "bar;bar;bar;bar;bar;bar;bar;bar;bar;bar;bar;bar";
    good(twelve);
    fault(twelve + "; bar", twelve.length() + 2);
    fault(twelve + ";", twelve.length() + 1);
    fault(twelve + "; x", twelve.length() + 2);
    String ones = "1+1+1+1+1+1+1+1+1+1+1+1+1+1+1+1+1+1+1+1+1+1+1+1+1+1+1+1+1+1+1+1+1+1+1+1+1+1+1+1+1+1+1+1+1+1+1+1+";
    good("slip " + ones + "1+1");
    fault("slip " + ones + "1+1+1", 5 + ones.length() + 4);
    fault("slip " + ones + "1;slip field;slip 1", 5 + ones.length() + 18);
    fault("slip " + ones + "1;bar if kin and kin", 5 + ones.length() + 17);
    fault("slip " + ones + "1;bar if year=1", 5 + ones.length() + 14);
    good("slip " + ones + "1;bar if not(not(near))");
    good("slip [[[[[[[[1]]]]]]]]");
    fault("slip [[[[[[[[[1]]]]]]]]]", 13);
    good("bar if ((((((((near))))))))");
    fault("bar if (((((((((near)))))))))", 15);
    good("bar if ((((([[[1]]]=1)))))");
    fault("bar if ((((([[[[1]]]]=1)))))", 15);
    good("bar if ((((((((near)))))))) and ((((((((near))))))))");
    fault("bar if ((((((((1=[1]", 17);
    StringBuilder nots = new StringBuilder("bar if ");
    while (nots.length() <= 390) {
      nots.append("not ");
    }
    good(nots + "near");
    fault(nots.toString(), nots.length());
  }

  /** Long texts, one behind the other, those that can't be too: each tells what it says. */
  private static void longTexts() {
    SlipTrees x = new SlipTrees();
    x.thing(1, 1, 1, 1, 0, 0);
    x.paper(0, 0, 0);
    x.entry(0, 0, 1, 1, 1, 1, 0);
    String ones = "1+1+1+1+1+1+1+1+1+1+1+1+1+1+1+1+1+1+1+1+1+1+1+1+1+1+1+1+1+1+1+1+1+1+1+1+1+1+1+1+1+1+1+1+1+1+1+1";
    for (int i = 1; i <= 20; i++) {
      due("a long text that can't be", Tapes.fault(x, "look 7+" + ones + "+"), 8 + ones.length());
      due("a long text", Tapes.law(x, "look " + 10 * i + "+" + ones), i - 1);
      due("what it tells", x.least(0, 0, 0), 10 * i + 48);
    }
  }

  /** The limits are those of one text, not of all. */
  private static void limitsOfOne() {
    SlipTrees x = new SlipTrees();
    String thirty = "slip 1+1+1+1+1+1+1+1+1+1+1+1+1+1+1+1+1+1+1+1+1+1+1+1+1+1+1+1+1+1";
    due("thirty", Tapes.law(x, thirty + ";bar;bar;bar;bar;bar;bar;bar"), 0);
    due("thirty more", Tapes.law(x, thirty + ";bar;bar;bar;bar;bar;bar;bar"), 1);
    due("a fault", Tapes.fault(x, thirty + ";bar bar"), thirty.length() + 5);
    due("thirty once more", Tapes.law(x, thirty), 2);
  }

  private static void texts() {
    SlipTrees x = new SlipTrees();
    due("fault ahead of any", x.fault(), -1);
    due("fault", Tapes.fault(x, "bar 5"), 4);
    for (int i = 0; i < 20; i++) {
      due("text " + i, Tapes.law(x, "slip " + i), i);
      due("fault of text " + i, x.fault(), -1);
    }
    Tapes.text(x, "what");
    due("a text too many", x.law(), -5);
    due("fault of a text that was not read", x.fault(), -1);
    due("tape of a text that was not read", x.count(4), 0);
    due("status", x.status(), -5);
    due("count of -5", x.count(8), 1);
    due("count of -6", x.count(9), 1);
    due("texts", x.count(3), 20);
    due("an empty tape, a text too many", x.law(), -5);
    fullTape(x);
    SlipTrees y = new SlipTrees();
    Tapes.fault(y, "bar;bar;x");
    due("fault stays", y.fault(), 8);
    y.feed(0, 0, 0, 0, 0);
    y.end(0);
    due("fault still stays", y.fault(), 8);
  }

  /** With 20 TEXTS, each law leaves an empty tape and the fault of the latest text that was read. */
  private static void fullTape(SlipTrees x) {
    for (int i = 0; i < 20; i++) {
      x.feed(0, 0, 0, 0, 0);
    }
    due("feed beyond a full tape", x.feed(0, 0, 0, 0, 0), -1);
    due("law of a full tape, a text too many", x.law(), -5);
    due("end behind it", x.end(1), -1);
    due("feed behind it", x.feed(0, 0, 0, 0, 0), 20);
    due("row behind it", x.row(0), -2);
    SlipTrees y = new SlipTrees();
    for (int i = 0; i < 19; i++) {
      Tapes.law(y, "bar");
    }
    y.image(0);
    due("the twentieth", Tapes.law(y, "bar"), 19);
    y.image(1);
    y.back(0);
    due("a fault", Tapes.fault(y, "bar 5"), 4);
    due("fault's tape", y.count(4), 0);
    y.back(1);
    due("a text too many behind an image", Tapes.law(y, "look"), -5);
    due("fault of the latest that was read", y.fault(), 4);
    due("tape behind an image", y.count(4), 0);
    y.back(0);
    due("a text that is read again", Tapes.law(y, "look 5"), 19);
    due("fault of a text without", y.fault(), -1);
  }

  // What heads tell. A slip from u to v in field 2 of thing 1 (claim 4, no ghost) is asked by apart.

  private static int slip(int u, int v, String... laws) {
    SlipTrees x = new SlipTrees();
    x.thing(0, 0, 0, 0, 0, 1);
    x.thing(0, 0, u, 0, 4, 0);
    x.paper(7, 0, 0);
    x.entry(0, 1, 0, 0, u, 0, 0);
    x.entry(0, 1, 0, 0, v, 0, 0);
    for (String law : laws) {
      CHECK.so("law " + law, Tapes.law(x, law) >= 0);
    }
    return x.apart(0, 1, 1);
  }

  private static void slips() {
    due("untold", slip(10, 20), 9);
    due("field", slip(10, 20, "slip 100+field"), 102);
    due("from", slip(10, 20, "slip from"), 10);
    due("to", slip(10, 20, "slip to"), 20);
    due("year of a slip", slip(10, 20, "slip year+1"), 1);
    due("years of a slip", slip(10, 20, "slip years+1"), 1);
    due("kin of a slip", slip(10, 20, "slip 2;slip 1 if kin"), 2);
    due("thing", slip(10, 20, "slip 10+thing"), 11);
    due("claim", slip(10, 20, "slip claim"), 4);
    due("ghost", slip(10, 20, "slip 2;slip 1 if ghost"), 2);
    due("near", slip(10, 20, "slip 2;slip 1 if near"), 1);
    due("not swap", slip(10, 20, "slip 2;slip 1 if swap"), 2);
    due("not drop", slip(10, 20, "slip 2;slip 1 if drop"), 2);
    due("swap", slip(10, 1, "slip 2;slip 1 if swap"), 1);
    due("swap is not drop, too", slip(10, 1, "slip 2;slip 1 if drop"), 2);
    due("drop", slip(152, 52, "slip 2;slip 1 if drop"), 2);
    due("near is not drop, too", slip(152, 52, "slip 2;slip 1 if near"), 1);
    due("drop alone", slip(952, 52, "slip 2;slip 1 if drop"), 1);
    due("other", slip(952, 7, "slip 2;slip 1 if near or swap or drop"), 2);
    due("the nearest of 0 .. 1000", slip(10, 20, "slip 0-1"), 0);
    due("the nearest of 0 .. 1000", slip(10, 20, "slip 1001"), 1000);
    due("1000", slip(10, 20, "slip 1000"), 1000);
    due("other heads", slip(10, 20, "look 1;open 2;birth 3;bar"), 9);
  }

  private static void lastThatHolds() {
    due("last clause", slip(10, 20, "slip 1;slip 2"), 2);
    due("last text", slip(10, 20, "slip 1;slip 2", "slip 3;slip 4"), 4);
    due("last that holds", slip(10, 20, "slip 1;slip 2 if near;slip 3 if drop", "slip 4 if swap"), 2);
    due("none holds", slip(10, 20, "slip 1 if drop"), 9);
    due("broken sum", slip(10, 20, "slip 1;slip 1/0"), 1);
    due("broken test", slip(10, 20, "slip 1;slip 2 if 1/0=1"), 1);
    due("broken test turned", slip(10, 20, "slip 1;slip 2 if not 1/0=1"), 1);
    due("broken sum behind a test that is not so", slip(10, 20, "slip 1;slip 1/0 if drop"), 1);
    due("an earlier text", slip(10, 20, "slip 5", "look 1;slip 1 if ghost"), 5);
  }

  private static void reckoning() {
    due("* ahead of +", slip(10, 20, "slip 2+3*4"), 14);
    due("+ behind *", slip(10, 20, "slip 2*3+4"), 10);
    due("brackets", slip(10, 20, "slip [2+3]*4"), 20);
    due("from the left", slip(10, 20, "slip 10-3-2"), 5);
    due("/ from the left", slip(10, 20, "slip 100/5/2"), 10);
    due("/ and *", slip(10, 20, "slip 7/2*2"), 6);
    due("cut towards 0", slip(10, 20, "slip [0-7]/2+10"), 7);
    due("cut towards 0 from below", slip(10, 20, "slip 7/[0-2]+10"), 7);
    due("1,000,000,000", slip(10, 20, "slip 100000*10000/100000/10"), 1000);
    due("beyond", slip(10, 20, "slip 100000*10000+1-100000*10000"), 9);
    due("beyond below", slip(10, 20, "slip 0-100000*10000-1"), 9);
    due("-1,000,000,000", slip(10, 20, "slip 100000*10000+[0-100000*10000]"), 0);
    due("beyond by *", slip(10, 20, "slip 100000*100000/100000"), 9);
    due("beyond by * that wraps", slip(10, 20, "slip 100000*100000*100000*100000"), 9);
    due("by 0", slip(10, 20, "slip 1/[from-10]"), 9);
    due("0 by 0", slip(10, 20, "slip 0/0"), 9);
    due("zeros ahead", slip(10, 20, "slip 0012"), 12);
  }

  private static void truth() {
    due("less", slip(10, 20, "slip 1 if from<to"), 1);
    due("not less", slip(10, 20, "slip 1 if to<from"), 9);
    due("alike is not less", slip(10, 20, "slip 1 if 1<1"), 9);
    due("more", slip(10, 20, "slip 1 if to>from"), 1);
    due("not more", slip(10, 20, "slip 1 if from>to"), 9);
    due("alike is not more", slip(10, 20, "slip 1 if 1>1"), 9);
    due("alike", slip(10, 20, "slip 1 if to=20"), 1);
    due("unlike", slip(10, 20, "slip 1 if to=21"), 9);
    due("not", slip(10, 20, "slip 1 if not drop"), 1);
    due("not of what is so", slip(10, 20, "slip 1 if not near"), 9);
    due("not of less", slip(10, 20, "slip 1 if not from<to"), 9);
    due("not of more", slip(10, 20, "slip 1 if not to>from"), 9);
    due("not of alike", slip(10, 20, "slip 1 if not 2=2"), 9);
    due("not of swap", slip(10, 1, "slip 1 if not swap"), 9);
    due("not of drop", slip(952, 52, "slip 1 if not drop"), 9);
    due("not of kin", slip(10, 20, "slip 1 if not kin"), 1);
    due("not not", slip(10, 20, "slip 1 if not not drop"), 9);
    due("and", slip(10, 20, "slip 1 if near and drop"), 9);
    due("or", slip(10, 20, "slip 1 if near or drop"), 1);
    due("and ahead of or", slip(10, 20, "slip 1 if near or near and drop"), 1);
    due("and ahead of or, too", slip(10, 20, "slip 1 if drop and drop or near"), 1);
    due("brackets", slip(10, 20, "slip 1 if (near or near) and drop"), 9);
    due("not binds closer", slip(10, 20, "slip 1 if not drop and drop"), 9);
    due("not of a bracket", slip(10, 20, "slip 1 if not (drop and drop)"), 1);
    due("or asks no more", slip(10, 20, "slip 1 if near or 1/0=1"), 1);
    due("or asks", slip(10, 20, "slip 1 if 1/0=1 or near"), 9);
    due("and asks no more", slip(10, 20, "slip 1 if not (drop and 1/0=1)"), 1);
    due("and asks", slip(10, 20, "slip 1 if not (near and 1/0=1)"), 9);
    due("or behind an and that is not so", slip(10, 20, "slip 1 if drop and 1/0=1 or near"), 1);
    due("or, or", slip(10, 20, "slip 1 if drop or swap or near or 1/0=1"), 1);
    due("and, and", slip(10, 20, "slip 1 if near and near and drop and 1/0=1 or near"), 1);
    due("and behind an or that is so", slip(10, 20, "slip 1 if (near or 1/0=1) and near"), 1);
    due("not after a jump", slip(10, 20, "slip 1 if not(near or 1/0=1)or near"), 1);
  }

  /** "look" and "birth" are asked of an entry: of thing and year, not of its fields. */
  private static void entries() {
    String all = "1000+field+from+to+years";
    due("look", look("look 10*thing+claim+year"), 10 + 4 + 7);
    due("look asks no field", look("look " + all + "-900"), 100);
    due("look of no kind", look("look 1 if near or swap or drop or kin or ghost"), 5);
    due("birth", birth("birth 10*thing+claim+year"), 20 + 6 + 7);
    due("birth asks no field", birth("birth " + all + "-900"), 100);
    due("birth of a ghost", birth("birth 1 if ghost"), 1);
    due("birth of no kind", birth("birth 1 if near or swap or drop or kin"), 20);
    due("birth of no ghost", birth("birth 1 if not ghost"), 20);
    due("look of no ghost", look("look 1 if not ghost"), 1);
    due("birth untold", birth("look 1;slip 1;open 1"), 20);
    due("look untold", look("birth 1;slip 1;open 1"), 5);
    due("look 0", look("look 0-5"), 0);
    due("birth 1000", birth("birth 100*100"), 1000);
    due("broken look", look("look 1/field"), 5);
  }

  private static SlipTrees twoThings(String law) {
    SlipTrees x = new SlipTrees();
    x.thing(9, 9, 9, 9, 9, 0);
    x.thing(1, 1, 1, 1, 4, 0);
    x.thing(1, 1, 1, 1, 6, 1);
    x.paper(7, 3, 0);
    Tapes.law(x, law);
    return x;
  }

  private static int look(String law) {
    SlipTrees x = twoThings(law);
    x.entry(0, 1, 1, 1, 1, 1, 2);
    return x.least(0, 0, 0);
  }

  private static int birth(String law) {
    SlipTrees x = twoThings(law);
    x.entry(0, 2, 3, 3, 3, 3, 2);
    return x.least(0, 0, 0);
  }

  /** "open" and "bar" are asked of two papers: of years and kin, not of things. */
  private static void pairs() {
    due("open", open("open year+100*years"), 207 + 100 * 7);
    due("open of kin", open("open 1 if kin"), 1);
    due("open of no kin", open("open 1;open 2 if not kin"), 1);
    due("open asks no thing", open("open 5+thing+claim+field+from+to"), 5);
    due("open of no kind", open("open 1 if near or swap or drop or ghost"), 3);
    due("open untold", open("look 50;slip 9;birth 3"), 3);
    due("open 0", open("open 0-1"), 0);
    due("bar", sources("bar"), 0);
    due("bar of kin", sources("bar if kin"), 1);
    due("bar of no kin", sources("bar if not kin"), 1);
    due("bar of years", sources("bar if years > 7"), 1);
    due("bar of year", sources("bar if year = 207"), 0);
    due("bar that does not hold", sources("bar if year = 208"), 2);
    due("bar that is broken", sources("bar if 1/0=1"), 2);
    due("a later bar does not lift an earlier one", sources("bar;bar if near"), 0);
    due("no bar", sources("slip 1;look 1;open 1;birth 1"), 2);
  }

  private static SlipTrees threePapers(String law) {
    SlipTrees x = new SlipTrees();
    x.thing(1, 1, 1, 1, 4, 0);
    x.paper(200, 3, 0);
    x.paper(207, 3, 0);
    x.paper(199, 4, 0);
    for (int p = 0; p < 3; p++) {
      x.entry(p, 0, 1, 1, 1, 1, 2);
    }
    Tapes.law(x, law);
    return x;
  }

  /** Of the second paper lifting from the first. */
  private static int open(String law) {
    return threePapers(law).judge(1, 2 - 1, 0);
  }

  private static int sources(String law) {
    return threePapers(law).least(1, 0, 1);
  }

  /** What one is asked of is not what another was asked of ahead of it. */
  private static void askedAnew() {
    SlipTrees x = new SlipTrees();
    x.thing(10, 10, 10, 10, 4, 0);
    x.paper(7, 0, 0);
    x.paper(9, 0, 0);
    x.entry(0, 0, 10, 20, 10, 10, 0);
    x.entry(0, 0, 10, 20, 10, 10, 0);
    x.entry(1, 0, 10, 20, 10, 30, 0);
    Tapes.law(x, "look 100+from+to+field;slip 10+year+years;slip 500 if kin;look 900 if near or kin;open 2+thing+claim+to");
    due("looked twice", x.least(0, 0, 0), 220);
    due("lifted", x.least(1, 0, 0), 12);
    due("looked", x.judge(1, 0, 0), 120);
  }

  /** A law counts from when it is told. */
  private static void lawIsSeen() {
    SlipTrees x = threePapers("look 50");
    due("before", x.least(1, 0, 0), 3);
    Tapes.law(x, "open 60");
    due("after", x.least(1, 0, 0), 50);
    Tapes.law(x, "look 70;bar if kin and 1/0=1");
    due("after the next", x.least(1, 0, 0), 60);
    Tapes.law(x, "bar if kin");
    due("sources after the last", x.source(1, 0, 0), 2);
    Tapes.law(x, "bar 5");
    due("a text that can't be changes nothing", x.source(1, 0, 0), 2);
  }

  public static void main(String[] args) {
    heads();
    tests();
    sums();
    limits();
    limitsOfOne();
    longTexts();
    texts();
    slips();
    lastThatHolds();
    reckoning();
    truth();
    entries();
    pairs();
    askedAnew();
    lawIsSeen();
    CHECK.end();
  }
}
