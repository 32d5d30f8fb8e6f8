import java.util.ArrayList;
import java.util.List;

/** Terms II on the language of the laws, and promises 10, 11, sentence by sentence: what can go on where, and FAULT. */
public final class EdgeGrammarTest {
  private static final Edge EDGE = new Edge("EdgeGrammarTest");
  private static final String HEADS = "slip look open birth bar";
  private static final String PARTS = "7 100000 000100000 [ field from to year years thing claim";
  private static final String PLAINS = "not ( near swap drop kin ghost " + PARTS;
  private static final String SIGNS = "+ - * /";
  private static final String NEVER = "100001 4294967297 18446744073709551617 bars ba x z sli fieldfrom yearss"
      + " A Bar SLIP . , : ! ? \" { } ~ ` @ ^ _ % & # $ \\ | \t \n \u0000 \u001f \u007f \u0080 \u00a0 \u00ff";
  private static final String END = "";

  private static void says(String words) {
    EDGE.says(words);
  }

  private static void due(String what, long got, long want) {
    EDGE.due(what, got, want);
  }

  /** FAULT of a text on a new object; NONE if it becomes a text. */
  private static void fault(String text, int want) {
    SlipTrees x = new SlipTrees();
    Tapes.text(x, text);
    due("law of <" + text + ">", x.law(), want < 0 ? 0 : -6);
    due("fault of <" + text + ">", x.fault(), want);
    due("tape behind <" + text + ">", x.count(4), 0);
    due("texts behind <" + text + ">", x.count(3), want < 0 ? 1 : 0);
  }

  private static void good(String text) {
    fault(text, -1);
  }

  // TOKENS.

  private static void letters() {
    says("TOKENS: longest rows of letters a .. z, of digits, single other bytes, any blanks (32) between.");
    for (int c = 0; c < 256; c++) {
      boolean letter = c >= 'a' && c <= 'z';
      fault("bar" + (char) c, c == ' ' ? -1 : letter ? 0 : c == ';' ? 4 : 3);
      fault((char) c + "bar", c == ' ' ? -1 : 0);
      fault("bar;" + (char) c + "bar", c == ' ' ? -1 : 4);
    }
  }

  private static void digits() {
    says("longest rows of letters a .. z, of digits");
    for (int c = 0; c < 256; c++) {
      boolean goesOn = ";+-*/".indexOf(c) >= 0;
      fault("slip 1" + (char) c, c == ' ' || c >= '0' && c <= '9' ? -1 : goesOn ? 7 : 6);
    }
    fault("slip 10 0", 8);
    fault("sl ip 1", 0);
    fault("ba r", 0);
    fault("bar ifnear", 4);
    good("slip1if1=1");
    good("slip1if1<2and near");
    fault("slip1if1<2andnear", 10);
    fault("slip1x", 5);
    fault("slip field1", 10);
    fault("slip 1field", 6);
    fault("bar if(near)ornear", 12);
    good("bar if(near)or(near)");
  }

  private static void blanks() {
    says("any blanks (32) between");
    good("   slip   1   +   [   2   ]   if   (   1   <   2   )   ;   bar   ");
    good("slip 1+[2]if(1<2);bar");
    fault("   ; ", 3);
    fault("bar    x  ", 7);
    fault("bar if    ", 10);
    good("bar" + " ".repeat(397));
    good(" ".repeat(397) + "bar");
  }

  // What can go on where.

  private static List<String> tokens() {
    List<String> all = new ArrayList<>(List.of((HEADS + " " + PLAINS + " if or and ; ) ] < > = " + SIGNS).split(" ")));
    for (String never : NEVER.split(" ")) {
      all.add(never);
    }
    return all;
  }

  /** Each token behind a beginning: just those of a set go on there, and the end if it is told so. */
  private static void goesOn(String beginning, boolean end, String set) {
    String text = beginning + " ";
    List<String> can = List.of(set.split(" "));
    for (String token : tokens()) {
      int place = can.contains(token) ? text.length() + token.length() + 1 : text.length();
      fault(text + token + " ?", place);
    }
    fault(beginning, end ? -1 : beginning.length());
    fault(text, end ? -1 : text.length());
  }

  private static void clauses() {
    says("FAULT: the first TOKEN that can't go on there (the end's: the TEXT's length).");
    fault("slip 1 1 1", 7);
    fault("bar x y", 4);
    fault("bar if ) )", 7);
    fault("slip", 4);
    fault("slip   ", 7);
    fault("slip 1 +    ", 12);
    fault("bar if (near", 12);
    says("CLAUSE {\";\" CLAUSE}");
    goesOn(END, false, HEADS);
    goesOn("bar;", false, HEADS);
    goesOn("slip 1 if near ; ", false, HEADS);
    says("CLAUSE: HEAD [\"if\" TEST].");
    goesOn("bar", true, "if ;");
    goesOn("bar if", false, PLAINS);
    goesOn("slip 1 if", false, PLAINS);
    goesOn("bar;bar", true, "if ;");
    goesOn("bar if near;look 1", true, "if ; " + SIGNS);
    says("HEAD: \"slip\" SUM | \"look\" SUM | \"open\" SUM | \"birth\" SUM | \"bar\".");
    for (String head : "slip look open birth".split(" ")) {
      goesOn(head, false, PARTS);
      goesOn(head + " 1", true, "if ; " + SIGNS);
    }
  }

  private static void tests() {
    says("TEST: BOTH {\"or\" BOTH}.");
    goesOn("bar if near", true, "or and ;");
    goesOn("bar if near or", false, PLAINS);
    goesOn("bar if near or near", true, "or and ;");
    says("BOTH: PLAIN {\"and\" PLAIN}.");
    goesOn("bar if near and", false, PLAINS);
    goesOn("bar if near and near", true, "or and ;");
    goesOn("bar if near and near or near and", false, PLAINS);
    says("PLAIN: \"not\" PLAIN");
    goesOn("bar if not", false, PLAINS);
    goesOn("bar if not not", false, PLAINS);
    goesOn("bar if not near", true, "or and ;");
    says("\"(\" TEST \")\"");
    goesOn("bar if (", false, PLAINS);
    goesOn("bar if (near", false, "or and )");
    goesOn("bar if (near)", true, "or and ;");
    goesOn("bar if ((near)", false, "or and )");
    goesOn("bar if (near or", false, PLAINS);
    goesOn("bar if (1 = 1", false, "or and ) " + SIGNS);
    says("\"near\" | \"swap\" | \"drop\" | \"kin\" | \"ghost\"");
    for (String plain : "near swap drop kin ghost".split(" ")) {
      goesOn("bar if " + plain, true, "or and ;");
    }
    says("SUM (\"<\" | \">\" | \"=\") SUM.");
    goesOn("bar if 1", false, "< > = " + SIGNS);
    goesOn("bar if (1", false, "< > = " + SIGNS);
    goesOn("bar if not 1", false, "< > = " + SIGNS);
    for (String sign : "<>=".split("")) {
      goesOn("bar if 1 " + sign, false, PARTS);
      goesOn("bar if 1 " + sign + " 1", true, "or and ; " + SIGNS);
    }
  }

  private static void sums() {
    says("SUM: TERM {(\"+\" | \"-\") TERM}. TERM: PART {(\"*\" | \"/\") PART}.");
    for (String sign : "+-*/".split("")) {
      goesOn("slip 1 " + sign, false, PARTS);
      goesOn("slip 1 " + sign + " 1", true, "if ; " + SIGNS);
      goesOn("bar if 1 " + sign, false, PARTS);
      goesOn("bar if 1 " + sign + " 1", false, "< > = " + SIGNS);
    }
    says("PART: NUMBER | \"[\" SUM \"]\" | \"field\" | \"from\" | \"to\" | \"year\" | \"years\" | \"thing\""
        + " | \"claim\".");
    for (String part : "7 field from to year years thing claim".split(" ")) {
      goesOn("slip " + part, true, "if ; " + SIGNS);
      goesOn("bar if " + part, false, "< > = " + SIGNS);
    }
    goesOn("slip [", false, PARTS);
    goesOn("slip [1", false, "] " + SIGNS);
    goesOn("slip [1]", true, "if ; " + SIGNS);
    goesOn("slip [[1]", false, "] " + SIGNS);
    goesOn("bar if [1", false, "] " + SIGNS);
    goesOn("bar if [1]", false, "< > = " + SIGNS);
  }

  // Limits.

  private static void mostClauses() {
    says("12 at most (FAULT at the 13th's first TOKEN)");
    String eleven = "bar;".repeat(11);
    good(eleven + "bar");
    fault(eleven + "bar;", 48);
    fault(eleven + "bar;   ", 51);
    fault(eleven + "bar;bar", 48);
    fault(eleven + "bar;  slip 1", 50);
    fault(eleven + "bar;  ;", 50);
    fault(eleven + "bar;bar;bar;bar", 48);
    fault(eleven + "bar if;bar", 50);
    fault(eleven + "bar bar", 48);
  }

  private static void numbers() {
    says("NUMBERS to 100,000.");
    good("slip 0");
    good("slip 100000");
    fault("slip 100001", 5);
    fault("slip 100010", 5);
    fault("slip 200000", 5);
    fault("slip 999999", 5);
    fault("slip 1000000", 5);
    fault("slip 4294967296", 5);
    fault("slip 4294967297", 5);
    fault("slip 18446744073709551617", 5);
    fault("slip " + "9".repeat(395), 5);
    good("slip " + "0".repeat(389) + "100000");
    fault("slip " + "0".repeat(389) + "100001", 5);
    good("slip " + "0".repeat(395));
    fault("slip 1 + 100001", 9);
    fault("bar if 1 < 100001", 11);
    fault("bar if 100001 < 1", 7);
  }

  private static void mostLeaves() {
    says("50 NUMBERS and words that are PARTS or PLAINS by themselves (FAULT at the 51st)");
    String fortyNine = "slip " + "1+".repeat(49);
    for (String part : "1 field from to year years thing claim".split(" ")) {
      good(fortyNine + part);
      fault(fortyNine + part + " + 1", 103 + part.length() + 3);
      fault(fortyNine + "1 + " + part, 107);
      fault(fortyNine + "1;look " + part, 110);
      fault(fortyNine + "1 if " + part + "= 1", 108);
    }
    for (String plain : "near swap drop kin ghost".split(" ")) {
      good("slip " + "1+".repeat(48) + "1 if " + plain);
      fault(fortyNine + "1 if " + plain, 108);
      fault(fortyNine + "1 if not (" + plain + ")", 113);
    }
    good("bar if " + "near or ".repeat(47) + "1=1 and kin");
    fault("bar if " + "near or ".repeat(47) + "1=1 and kin or to", 398);
    good("slip " + "to+".repeat(49) + "to;bar;bar");
    says("and words that are PARTS or PLAINS by themselves");
    good("slip " + "[1]-".repeat(49) + "[1];bar;bar");
    good("bar if " + "not (kin) and ".repeat(25) + "not kin" + " or kin".repeat(4));
    fault(fortyNine + "1 + 100001", 107);
    fault(fortyNine + "[1] + [1]", 103 + 7);
  }

  private static void mostBrackets() {
    says("8 brackets of both kinds within one another (FAULT at the 9th) at most");
    good("slip " + "[".repeat(8) + "1" + "]".repeat(8));
    fault("slip " + "[".repeat(9) + "1" + "]".repeat(9), 13);
    fault("slip " + "[".repeat(12), 13);
    good("bar if " + "(".repeat(8) + "kin" + ")".repeat(8));
    fault("bar if " + "(".repeat(9) + "kin" + ")".repeat(9), 15);
    for (int round = 0; round <= 8; round++) {
      String open = "bar if " + "(".repeat(round) + "[".repeat(8 - round);
      String close = "]".repeat(8 - round) + " = 1" + ")".repeat(round);
      good(open + "1" + close);
      fault(open + "[1]" + close, 15);
      fault("bar if " + "(".repeat(round) + "1 = " + "[".repeat(9 - round), 7 + 4 + 8);
    }
    says("within one another");
    good("slip " + "[".repeat(8) + "1" + "]".repeat(8) + "+" + "[".repeat(8) + "1" + "]".repeat(8));
    good("bar if " + "(".repeat(8) + "kin" + ")".repeat(8) + " and " + "(".repeat(8) + "kin" + ")".repeat(8));
    good("slip " + "[".repeat(8) + "1" + "]".repeat(8) + ";slip " + "[".repeat(8) + "1" + "]".repeat(8));
    good("slip " + "[".repeat(8) + "1" + "]".repeat(8) + "if" + "(".repeat(8) + "kin" + ")".repeat(8));
    good("bar if " + "[".repeat(8) + "1" + "]".repeat(8) + "=" + "[".repeat(8) + "1" + "]".repeat(8));
    good("slip " + "[1]+".repeat(40) + "[1]");
    good("bar if " + "not ".repeat(97) + "kin");
  }

  private static void longestText() {
    says("LAWS are TEXTS, 20 at most, on a TAPE of at most 400 bytes.");
    String text = "slip 1" + " ".repeat(385) + ";look 100";
    SlipTrees x = new SlipTrees();
    x.thing(1, 1, 1, 1, 1, 0);
    x.paper(0, 0, 0);
    x.entry(0, 0, 1, 1, 1, 2, 0);
    due("bytes", text.length(), 400);
    due("law", Tapes.law(x, text), 0);
    due("what it tells", x.least(0, 0, 0), 101);
    String fifty = "look [100]" + "+1".repeat(49);
    for (int i = 1; i < 20; i++) {
      due("a long text that can't be", Tapes.law(x, fifty + "+1" + " ".repeat(290)), -6);
      due("its fault", x.fault(), 109);
      due("a long text", Tapes.law(x, fifty.replace("100", "" + (100 + i)) + " ".repeat(292)), i);
      due("what it tells", x.least(0, 0, 0), 149 + i + 1);
    }
    fault(" ".repeat(399) + "x", 399);
    fault("bar" + " ".repeat(396) + "x", 399);
    fault("bar" + " ".repeat(396) + ";", 400);
    fault("bar if " + "not ".repeat(98), 399);
    fault("bar if " + "not ".repeat(98) + "(", 400);
  }

  // Promises 10 and 11.

  private static void law() {
    says("The TAPE, which is empty then, becomes a TEXT of LAWS: its number.");
    SlipTrees x = new SlipTrees();
    for (int i = 0; i < 20; i++) {
      due("law", Tapes.law(x, "slip " + i), i);
      due("status", x.status(), 0);
      due("texts", x.count(3), i + 1);
      due("tape", x.count(4), 0);
      due("end(1)", x.end(1), -1);
    }
    says("-5 (ahead of reading it)");
    for (String text : new String[] {"slip 1", "what", "", "bar bar"}) {
      due("law of <" + text + ">, a text too many", Tapes.law(x, text), -5);
      due("status", x.status(), -5);
      due("fault", x.fault(), -1);
      due("tape", x.count(4), 0);
    }
    due("texts", x.count(3), 20);
    due("refused by -5", x.count(8), 4);
    due("refused by -6", x.count(9), 0);
    SlipTrees y = new SlipTrees();
    for (int i = 0; i < 19; i++) {
      Tapes.law(y, "bar");
      due("a text that can't be takes no room", Tapes.law(y, "bar bar"), -6);
    }
    due("the twentieth", Tapes.law(y, "bar"), 19);
    due("a text that can't be, without room", Tapes.law(y, "bar bar"), -5);
  }

  private static void blanksAlone() {
    says("-6 (blanks alone: FAULT at the end).");
    fault("", 0);
    fault(" ", 1);
    fault(" ".repeat(20), 20);
    fault(" ".repeat(400), 400);
    SlipTrees x = new SlipTrees();
    x.feed(0x20202020, 0x20202020, 0x20202020, 0x20202020, 0x20202020);
    x.end(7);
    due("seven blanks", x.law(), -6);
    due("their fault", x.fault(), 7);
    due("nothing", x.law(), -6);
    due("its fault", x.fault(), 0);
    due("refused by -6", x.count(9), 2);
  }

  /** A text that can't be tells nothing, not even by its clauses ahead of the fault. */
  private static void allOrNothing() {
    says("becomes a TEXT of LAWS");
    SlipTrees x = new SlipTrees();
    x.thing(1, 1, 1, 1, 1, 0);
    x.paper(0, 0, 0);
    x.entry(0, 0, 1, 1, 1, 1, 0);
    due("law", Tapes.law(x, "look 70; look 80 what"), -6);
    due("least", x.least(0, 0, 0), 5);
    due("law", Tapes.law(x, "look 7"), 0);
    due("least", x.least(0, 0, 0), 7);
    due("law", Tapes.law(x, "look 70;"), -6);
    due("least", x.least(0, 0, 0), 7);
  }

  private static void fault() {
    says("FAULT of the latest law() that read a TEXT: its place; NONE without.");
    SlipTrees x = new SlipTrees();
    due("ahead of any", x.fault(), -1);
    Tapes.law(x, "bar");
    due("of one without", x.fault(), -1);
    Tapes.law(x, "bar bar");
    due("of one with", x.fault(), 4);
    due("asked again", x.fault(), 4);
    x.thing(1, 1, 1, 1, 1, 0);
    x.row(0);
    x.image(0);
    x.feed(0, 0, 0, 0, 0);
    x.back(0);
    due("behind other calls", x.fault(), 4);
    x.end(0);
    Tapes.law(x, "slip");
    due("of a later one with", x.fault(), 4);
    Tapes.law(x, "x");
    due("of a later one still", x.fault(), 0);
    Tapes.law(x, "look 1");
    due("of a later one without", x.fault(), -1);
    Tapes.law(x, "bar 1");
    due("once more", x.fault(), 4);
    for (int i = 2; i < 20; i++) {
      Tapes.law(x, "bar");
      due("of one without", x.fault(), -1);
      Tapes.law(x, i < 19 ? "bar 1" : "bar x");
    }
    due("texts", x.count(3), 20);
    due("its fault", x.fault(), -1);
    Tapes.law(x, "slip");
    due("one that is not read leaves it", x.fault(), -1);
  }

  private static void faultStaysWithoutRoom() {
    says("the latest law() that read a TEXT");
    SlipTrees x = new SlipTrees();
    x.image(0);
    for (int i = 0; i < 20; i++) {
      Tapes.law(x, "bar");
    }
    x.image(1);
    x.back(0);
    Tapes.law(x, "bar if 1 1");
    due("fault", x.fault(), 9);
    x.back(1);
    Tapes.law(x, "bar");
    due("status of one that is not read", x.status(), -5);
    due("fault behind one that is not read", x.fault(), 9);
    Tapes.law(x, "what");
    due("fault behind another one", x.fault(), 9);
  }

  public static void main(String[] args) {
    letters();
    digits();
    blanks();
    clauses();
    tests();
    sums();
    mostClauses();
    numbers();
    mostLeaves();
    mostBrackets();
    longestText();
    law();
    blanksAlone();
    allOrNothing();
    fault();
    faultStaysWithoutRoom();
    EDGE.end();
  }
}
