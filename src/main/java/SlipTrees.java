import java.util.Arrays;

/** Misprints that are copied: which list was lifted from which, told by the slips they share. */
public final class SlipTrees {
  public static final int NONE = -1;

  private static final int BAD_NUMBER = -1;
  private static final int NO_SUCH = -2;
  private static final int CANNOT_BE = -3;
  private static final int NO_ROOM = -5;
  private static final int BAD_TEXT = -6;

  private static final int NOTHING = -100;
  private static final int MOST_FIELD = 9999;
  private static final int MOST_CLAIM = 9;
  private static final int MOST_YEAR = 399;
  private static final int MOST_KIN = 7;
  private static final int MOST_DAY = 99;
  private static final int MOST_SLACK = 40;
  private static final int MOST_SEED = 1_000_000;
  private static final int FEWEST_MADE = 2;
  private static final int MOST_MADE = 8;
  private static final int ROW_BYTES = 10;
  private static final int IMAGES = 2;
  private static final int FIRST_REFUSED = 5;

  private static final int NEAR = 1;
  private static final int SWAP = 2;
  private static final int DROP = 3;
  private static final int OTHER = 4;

  private final Tape tape;
  private final Reader reader;
  private final Book told;
  private final Laws laws;
  private final Chooser chooser;
  private final Leasts leasts;
  private final Maker maker;
  private final Leasts trial;
  private final Book[] images;
  private final boolean[] kept;
  private final int[] refused;
  private int status;
  private int fault;

  public SlipTrees() {
    tape = new Tape();
    reader = new Reader(tape);
    told = new Book();
    laws = new Laws();
    chooser = new Chooser(laws);
    leasts = new Leasts(told, laws, chooser);
    maker = new Maker();
    trial = new Leasts(maker.made, laws, chooser);
    images = new Book[IMAGES];
    for (int k = 0; k < IMAGES; k++) {
      images[k] = new Book();
    }
    kept = new boolean[IMAGES];
    refused = new int[FIRST_REFUSED];
    status = 0;
    fault = NONE;
  }

  // What is told.

  public int thing(int name, int year, int volume, int page, int claim, int ghost) {
    if (!areFields(name, year, volume, page) || !within(claim, MOST_CLAIM) || !within(ghost, 1)) {
      return refuse(BAD_NUMBER);
    }
    if (told.thingCount >= Book.THINGS) {
      return refuse(NO_ROOM);
    }
    return accept(told.addThing(name, year, volume, page, claim, ghost));
  }

  public int paper(int year, int kin, int seen) {
    if (!within(year, MOST_YEAR) || !within(kin, MOST_KIN) || !within(seen, MOST_DAY)) {
      return refuse(BAD_NUMBER);
    }
    if (told.paperCount >= Book.PAPERS) {
      return refuse(NO_ROOM);
    }
    leasts.forget();
    return accept(told.addPaper(year, kin, seen));
  }

  public int entry(int paper, int thing, int name, int year, int volume, int page, int claim) {
    if (!areFields(name, year, volume, page) || !within(claim, MOST_CLAIM)) {
      return refuse(BAD_NUMBER);
    }
    if (!told.hasPaper(paper) || !told.hasThing(thing)) {
      return refuse(NO_SUCH);
    }
    if (!told.hasRoomIn(paper)) {
      return refuse(NO_ROOM);
    }
    leasts.forget();
    return accept(told.addEntry(paper, thing, name, year, volume, page, claim));
  }

  public int row(int paper) {
    int became = readRow(paper);
    // Whatever has come of it, a refusal too, the tape is empty then.
    tape.length = 0;
    return became < 0 ? refuse(became) : accept(became);
  }

  /** How many entries the tape's bytes became; what the row is refused by, if it is. */
  private int readRow(int paper) {
    if (!told.hasPaper(paper)) {
      return NO_SUCH;
    }
    if (tape.length == 0) {
      return BAD_TEXT;
    }
    int became = 0;
    for (int at = 0; at + ROW_BYTES <= tape.length; at += ROW_BYTES) {
      if (addFromTape(paper, at)) {
        became++;
      }
    }
    leasts.forget();
    return became;
  }

  private boolean addFromTape(int paper, int at) {
    int thing = tape.byteAt(at);
    int name = tape.pairAt(at + 1);
    int year = tape.pairAt(at + 3);
    int volume = tape.pairAt(at + 5);
    int page = tape.pairAt(at + 7);
    int claim = tape.byteAt(at + 9);
    if (!told.hasThing(thing) || !areFields(name, year, volume, page) || !within(claim, MOST_CLAIM)) {
      return false;
    }
    return told.addEntry(paper, thing, name, year, volume, page, claim) != NONE;
  }

  public int of(int entry, int what) {
    return told.ofEntry(entry, what);
  }

  public int list(int paper, int i) {
    if (i == NONE) {
      return told.ofPaper(paper, Book.SIZE);
    }
    return told.entryAt(paper, i);
  }

  public int feed(int a, int b, int c, int d, int e) {
    if (tape.length + 20 > Tape.ROOM) {
      return NONE;
    }
    tape.add(a);
    tape.add(b);
    tape.add(c);
    tape.add(d);
    tape.add(e);
    return tape.length;
  }

  public int end(int n) {
    if (n < 0 || n > tape.length) {
      return NONE;
    }
    tape.length = n;
    return n;
  }

  public int law() {
    boolean room = told.textCount < Book.TEXTS;
    Text text = room ? reader.read() : null;
    // Whatever has come of it, a refusal too, the tape is empty then.
    tape.length = 0;
    if (!room) {
      return refuse(NO_ROOM);
    }
    if (text == null) {
      fault = reader.place;
      return refuse(BAD_TEXT);
    }
    fault = NONE;
    leasts.forget();
    return accept(told.addText(text));
  }

  public int fault() {
    return fault;
  }

  // Slips.

  public int kind(int u, int v) {
    if (!within(u, MOST_FIELD) || !within(v, MOST_FIELD)) {
      return NONE;
    }
    return slipKind(u, v);
  }

  public int apart(int a, int b, int what) {
    if (!areOfOneThing(a, b) || !within(what, 1)) {
      return NONE;
    }
    if (what == 1) {
      return laws.slipsBetween(told, a, b);
    }
    int unlike = 0;
    for (int field = 0; field < Book.FIELDS; field++) {
      if (told.fieldOf(a, field) != told.fieldOf(b, field)) {
        unlike++;
      }
    }
    return unlike;
  }

  public long twice(int a, int b) {
    if (a == b || !areOfOneThing(a, b)) {
      return NONE;
    }
    int thing = told.ofEntry(a, Book.THING);
    long chance = 1;
    for (int field = 0; field < Book.FIELDS; field++) {
      int is = told.fieldOf(a, field);
      int right = told.ofThing(thing, field);
      if (is == told.fieldOf(b, field) && is != right) {
        chance *= 1 + laws.slipTells(told, thing, field, right, is);
      }
    }
    return chance;
  }

  public int alike(int entry, int day) {
    if (!told.hasEntry(entry) || !within(day, MOST_DAY)) {
      return NONE;
    }
    int same = 0;
    for (int other = 0; other < told.entryCount; other++) {
      if (told.isSeen(told.ofEntry(other, Book.PAPER), day) && told.areAlike(entry, other)) {
        same++;
      }
    }
    return same;
  }

  // Leasts, as seen on a day.

  public int least(int paper, int day, int what) {
    if (!told.isSeen(paper, day) || !within(what, 2)) {
      return NONE;
    }
    if (what == 1) {
      return Integer.bitCount(leasts.sourcesOf(paper, day));
    }
    leasts.settle(paper, paper + 1, day);
    return what == 0 ? leasts.sumOf(paper) : leasts.bitsOf(paper);
  }

  public int source(int paper, int day, int i) {
    if (!told.isSeen(paper, day) || i < 0) {
      return NONE;
    }
    int sources = leasts.sourcesOf(paper, day);
    int before = 0;
    for (int other = 0; other < Book.PAPERS; other++) {
      if ((sources >> other & 1) == 1) {
        if (before == i) {
          return other;
        }
        before++;
      }
    }
    return NONE;
  }

  public int from(int entry, int day) {
    int paper = told.ofEntry(entry, Book.PAPER);
    if (!told.isSeen(paper, day)) {
      return NO_SUCH;
    }
    leasts.settle(paper, paper + 1, day);
    return leasts.originOf(entry);
  }

  public int judge(int paper, int bits, int day) {
    if (!told.isSeen(paper, day)) {
      return NONE;
    }
    int sources = leasts.sourcesOf(paper, day);
    if (bits < 0 || bits >= 1 << Integer.bitCount(sources)) {
      return NONE;
    }
    chooser.load(told, paper, sources);
    return chooser.sumWith(bits);
  }

  public int tree(int day, int what) {
    if (!within(day, MOST_DAY) || !within(what, 5)) {
      return NONE;
    }
    leasts.settle(0, told.paperCount, day);
    if (what == 0) {
      return leasts.sumOfAll(day);
    }
    int found = 0;
    for (int entry = 0; entry < told.entryCount; entry++) {
      if (told.isSeen(told.ofEntry(entry, Book.PAPER), day)) {
        found += treePart(entry, what);
      }
    }
    return found;
  }

  /** What one entry brings to a count of the tree's. */
  private int treePart(int entry, int what) {
    int origin = leasts.originOf(entry);
    boolean lifted = origin != NONE;
    boolean ghost = told.isGhost(told.ofEntry(entry, Book.THING));
    switch (what) {
      case 1:
        return !lifted && !ghost ? 1 : 0;
      case 2:
        return lifted ? 1 : 0;
      case 3:
        return !lifted && ghost ? 1 : 0;
      case 4:
        return lifted ? told.fieldsMadeRight(origin, entry) : 0;
      default:
        return lifted ? told.fieldsMadeRight(entry, origin) : 0;
    }
  }

  public int lookers(int slack, int day, int what) {
    if (!within(slack, MOST_SLACK) || !within(day, MOST_DAY) || !within(what, 1)) {
      return NONE;
    }
    leasts.settle(0, told.paperCount, day);
    leasts.reachAll(day);
    return leasts.lookedWithin(leasts.sumOfAll(day) + slack, what == 1);
  }

  public int births(int thing, int day, int i) {
    if (!told.isGhost(thing) || !within(day, MOST_DAY)) {
      return NONE;
    }
    leasts.settle(0, told.paperCount, day);
    int born = 0;
    for (int entry = 0; entry < told.entryCount; entry++) {
      boolean ofIt = told.ofEntry(entry, Book.THING) == thing;
      if (ofIt && told.isSeen(told.ofEntry(entry, Book.PAPER), day) && leasts.originOf(entry) == NONE) {
        if (born == i) {
          return entry;
        }
        born++;
      }
    }
    return i == NONE ? born : NONE;
  }

  public int drift(int entry, int day) {
    int paper = told.ofEntry(entry, Book.PAPER);
    if (!told.isSeen(paper, day)) {
      return NOTHING;
    }
    leasts.settle(paper, paper + 1, day);
    int origin = leasts.originOf(entry);
    int thing = told.ofEntry(entry, Book.THING);
    int claim = told.ofEntry(entry, Book.ENTRY_CLAIM);
    if (origin != NONE) {
      return claim - told.ofEntry(origin, Book.ENTRY_CLAIM);
    }
    return told.isGhost(thing) ? 0 : claim - told.ofThing(thing, Book.CLAIM);
  }

  public int weight(int entry, int day) {
    if (!told.isSeen(told.ofEntry(entry, Book.PAPER), day)) {
      return NONE;
    }
    leasts.settle(0, told.paperCount, day);
    int come = 0;
    for (int other = 0; other < told.entryCount; other++) {
      if (told.isSeen(told.ofEntry(other, Book.PAPER), day) && leasts.comesFrom(other, entry)) {
        come++;
      }
    }
    return come;
  }

  // Runs, worlds, images.

  public int run(int a, int b, int what) {
    if (a == b || !told.hasPaper(a) || !told.hasPaper(b) || !within(what, 1)) {
      return NONE;
    }
    int longest = 0;
    int place = NONE;
    for (int i = 0; i < told.ofPaper(a, Book.SIZE); i++) {
      for (int j = 0; j < told.ofPaper(b, Book.SIZE); j++) {
        int length = sharedFrom(a, i, b, j);
        if (length > longest) {
          longest = length;
          place = i;
        }
      }
    }
    return what == 0 ? longest : place;
  }

  private int sharedFrom(int a, int i, int b, int j) {
    int length = 0;
    while (length < Book.PLACES) {
      int one = told.entryAt(a, i + length);
      int other = told.entryAt(b, j + length);
      if (one == NONE || other == NONE) {
        return length;
      }
      if (told.ofEntry(one, Book.THING) != told.ofEntry(other, Book.THING)) {
        return length;
      }
      length++;
    }
    return length;
  }

  public int world(int seed, int papers, int what) {
    boolean canBe = papers >= FEWEST_MADE && papers <= MOST_MADE && within(seed, MOST_SEED);
    if (!canBe || !within(what, 3) || !told.hasTrueThing()) {
      return NONE;
    }
    maker.make(told, seed, papers);
    if (what == 0) {
      return maker.made.entryCount;
    }
    if (what == 2) {
      return maker.looked;
    }
    trial.forget();
    trial.settle(0, papers, 0);
    if (what == 3) {
      return trial.sumOfAll(0);
    }
    int right = 0;
    for (int entry = 0; entry < maker.made.entryCount; entry++) {
      if (trial.originOf(entry) == maker.originOf(entry)) {
        right++;
      }
    }
    return right;
  }

  public int image(int k) {
    if (!within(k, IMAGES - 1)) {
      return refuse(BAD_NUMBER);
    }
    images[k].copyFrom(told);
    kept[k] = true;
    return accept(0);
  }

  public int back(int k) {
    if (!within(k, IMAGES - 1)) {
      return refuse(BAD_NUMBER);
    }
    if (!kept[k]) {
      return refuse(NO_SUCH);
    }
    told.copyFrom(images[k]);
    leasts.forget();
    return accept(0);
  }

  public int count(int what) {
    switch (what) {
      case 0:
        return told.thingCount;
      case 1:
        return told.paperCount;
      case 2:
        return told.entryCount;
      case 3:
        return told.textCount;
      case 4:
        return tape.length;
      default:
        int why = what - FIRST_REFUSED;
        return within(why, refused.length - 1) ? refused[why] : NONE;
    }
  }

  public int status() {
    return status;
  }

  private int accept(int answer) {
    status = 0;
    return answer;
  }

  private int refuse(int why) {
    status = why;
    refused[placeOf(why)]++;
    return why;
  }

  private static int placeOf(int why) {
    switch (why) {
      case BAD_NUMBER:
        return 0;
      case NO_SUCH:
        return 1;
      case CANNOT_BE:
        return 2;
      case NO_ROOM:
        return 3;
      default:
        return 4;
    }
  }

  private static boolean within(int number, int most) {
    return number >= 0 && number <= most;
  }

  private static boolean areFields(int name, int year, int volume, int page) {
    return within(name, MOST_FIELD) && within(year, MOST_FIELD)
        && within(volume, MOST_FIELD) && within(page, MOST_FIELD);
  }

  private boolean areOfOneThing(int a, int b) {
    return told.hasEntry(a) && told.hasEntry(b)
        && told.ofEntry(a, Book.THING) == told.ofEntry(b, Book.THING);
  }

  /** The kind of a slip between two fields: the first that it is. */
  private static int slipKind(int u, int v) {
    if (u == v) {
      return 0;
    }
    if (isNear(u, v)) {
      return NEAR;
    }
    if (isSwap(u, v)) {
      return SWAP;
    }
    return isDrop(u, v) ? DROP : OTHER;
  }

  private static boolean isNear(int u, int v) {
    int unlike = 0;
    int gap = 0;
    for (int unit = 1; unit <= 1000; unit *= 10) {
      int apart = Math.abs(u / unit % 10 - v / unit % 10);
      if (apart != 0) {
        unlike++;
        gap = apart;
      }
    }
    return unlike == 1 && (gap == 1 || gap == 3);
  }

  private static boolean isSwap(int u, int v) {
    for (int unit = 1; unit <= 100; unit *= 10) {
      int low = u / unit % 10;
      int high = u / unit / 10 % 10;
      int swapped = u + (low - high) * unit * 10 + (high - low) * unit;
      if (swapped == v) {
        return true;
      }
    }
    return false;
  }

  private static boolean isDrop(int u, int v) {
    if (u < 10) {
      return false;
    }
    for (int unit = 1; unit <= 1000 && unit <= u; unit *= 10) {
      if (u / unit / 10 * unit + u % unit == v) {
        return true;
      }
    }
    return false;
  }

  /** The bytes that are fed, until a row or a law takes them. */
  private static final class Tape {
    static final int ROOM = 400;

    final int[] bytes = new int[ROOM];
    int length;

    void add(int number) {
      for (int shift = 24; shift >= 0; shift -= 8) {
        if (length >= 0 && length < ROOM) {
          bytes[length] = number >> shift & 255;
          length++;
        }
      }
    }

    int byteAt(int at) {
      return at >= 0 && at < length && at < ROOM ? bytes[at] : NONE;
    }

    int pairAt(int at) {
      int high = byteAt(at);
      int low = byteAt(at + 1);
      return high == NONE || low == NONE ? NONE : high * 256 + low;
    }
  }

  /** A text of laws as it was read. It never changes, so that images share it. */
  private static final class Text {
    static final int HEAD = 0;
    static final int SUM = 1;
    static final int TEST = 2;
    static final int STOP = 3;
    static final int CLAUSE_ROW = 4;

    /** Tokens, each behind what it joins; behind a number's its value, behind "and", "or" where to go on. */
    final int[] code;
    /** Of each clause its head, and where in the code its sum and its test begin and where that stops. */
    final int[] clauses;

    Text(int[] code, int[] clauses) {
      this.code = code;
      this.clauses = clauses;
    }
  }

  /** Reads a text of laws from the tape, token by token. A reading that fails stands on the fault. */
  private static final class Reader {
    static final String WORDS =
        "field from to year years thing claim near swap drop kin ghost slip look open birth bar if or and not ";
    static final int FIRST_WORD = 256;
    static final int FIRST_PLAIN = FIRST_WORD + 7;
    static final int SLIP = FIRST_WORD + 12;
    static final int LOOK = FIRST_WORD + 13;
    static final int OPEN = FIRST_WORD + 14;
    static final int BIRTH = FIRST_WORD + 15;
    static final int BAR = FIRST_WORD + 16;
    static final int IF = FIRST_WORD + 17;
    static final int OR = FIRST_WORD + 18;
    static final int AND = FIRST_WORD + 19;
    static final int NOT = FIRST_WORD + 20;
    static final int NUMBER = 300;
    static final int END = 301;
    static final int UNKNOWN = 302;
    static final int MOST_CLAUSES = 12;
    static final int MOST_LEAVES = 50;
    static final int MOST_DEPTH = 8;
    static final int MOST_NUMBER = 100_000;

    final Tape tape;
    final int[] code = new int[2 * Tape.ROOM];
    final int[] clauses = new int[Text.CLAUSE_ROW * MOST_CLAUSES];
    int codeSize;
    int clauseCount;
    int leaves;
    /** Where the token at hand begins. */
    int place;
    int next;
    int token;
    int number;

    Reader(Tape tape) {
      this.tape = tape;
    }

    /** The text on the tape; null if it can't be. */
    Text read() {
      next = 0;
      codeSize = 0;
      clauseCount = 0;
      leaves = 0;
      advance();
      if (!readClause()) {
        return null;
      }
      for (int i = 0; i < MOST_CLAUSES && token == ';'; i++) {
        advance();
        if (!readClause()) {
          return null;
        }
      }
      if (token != END) {
        return null;
      }
      return new Text(Arrays.copyOf(code, codeSize), Arrays.copyOf(clauses, Text.CLAUSE_ROW * clauseCount));
    }

    private boolean readClause() {
      int head = token;
      if (clauseCount >= MOST_CLAUSES || head < SLIP || head > BAR) {
        return false;
      }
      int sum = codeSize;
      advance();
      if (head == BAR) {
        // A bar has no sum; a number in its place lets all clauses be asked alike.
        emit(NUMBER);
        emit(0);
      } else if (!readSum(0)) {
        return false;
      }
      int test = codeSize;
      if (token == IF) {
        advance();
        if (!readTest(0)) {
          return false;
        }
      }
      int at = clauseCount * Text.CLAUSE_ROW;
      clauses[at + Text.HEAD] = head;
      clauses[at + Text.SUM] = sum;
      clauses[at + Text.TEST] = test;
      clauses[at + Text.STOP] = codeSize;
      clauseCount++;
      return true;
    }

    private boolean readTest(int depth) {
      if (!readBoth(depth)) {
        return false;
      }
      for (int i = 0; i < Tape.ROOM && token == OR; i++) {
        int jump = emitJump();
        if (!readBoth(depth)) {
          return false;
        }
        aim(jump);
      }
      return true;
    }

    private boolean readBoth(int depth) {
      if (!readPlain(depth)) {
        return false;
      }
      for (int i = 0; i < Tape.ROOM && token == AND; i++) {
        int jump = emitJump();
        if (!readPlain(depth)) {
          return false;
        }
        aim(jump);
      }
      return true;
    }

    private boolean readPlain(int depth) {
      boolean turned = false;
      for (int i = 0; i < Tape.ROOM && token == NOT; i++) {
        turned = !turned;
        advance();
      }
      boolean read = token == '(' ? readBracket(depth) : isPlain() ? readLeaf() : readComparison(depth);
      if (read && turned) {
        emit(NOT);
      }
      return read;
    }

    private boolean readBracket(int depth) {
      if (depth >= MOST_DEPTH) {
        return false;
      }
      boolean square = token == '[';
      advance();
      if (!(square ? readSum(depth + 1) : readTest(depth + 1)) || token != (square ? ']' : ')')) {
        return false;
      }
      advance();
      return true;
    }

    private boolean readComparison(int depth) {
      if (!readSum(depth)) {
        return false;
      }
      int sign = token;
      if (sign != '<' && sign != '>' && sign != '=') {
        return false;
      }
      advance();
      if (!readSum(depth)) {
        return false;
      }
      emit(sign);
      return true;
    }

    private boolean readSum(int depth) {
      if (!readTerm(depth)) {
        return false;
      }
      for (int i = 0; i < Tape.ROOM && (token == '+' || token == '-'); i++) {
        int sign = token;
        advance();
        if (!readTerm(depth)) {
          return false;
        }
        emit(sign);
      }
      return true;
    }

    private boolean readTerm(int depth) {
      if (!readPart(depth)) {
        return false;
      }
      for (int i = 0; i < Tape.ROOM && (token == '*' || token == '/'); i++) {
        int sign = token;
        advance();
        if (!readPart(depth)) {
          return false;
        }
        emit(sign);
      }
      return true;
    }

    private boolean readPart(int depth) {
      if (token == '[') {
        return readBracket(depth);
      }
      boolean word = token >= FIRST_WORD && token < FIRST_PLAIN;
      boolean fitting = token == NUMBER && number <= MOST_NUMBER;
      return (word || fitting) && readLeaf();
    }

    private boolean isPlain() {
      return token >= FIRST_PLAIN && token < SLIP;
    }

    /** Takes a number or a word that stands by itself. */
    private boolean readLeaf() {
      if (leaves >= MOST_LEAVES) {
        return false;
      }
      leaves++;
      emit(token);
      if (token == NUMBER) {
        emit(number);
      }
      advance();
      return true;
    }

    /** Takes "and" or "or"; where its place to go on is to be put. */
    private int emitJump() {
      emit(token);
      emit(0);
      advance();
      return codeSize - 1;
    }

    private void aim(int jump) {
      if (jump >= 0 && jump < code.length) {
        code[jump] = codeSize;
      }
    }

    private void emit(int sign) {
      if (codeSize < code.length) {
        code[codeSize] = sign;
        codeSize++;
      }
    }

    private void advance() {
      int start = next;
      while (start < tape.length && tape.byteAt(start) == ' ') {
        start++;
      }
      place = start;
      if (start >= tape.length) {
        token = END;
        next = start;
        return;
      }
      int first = tape.byteAt(start);
      int stop = start + 1;
      if (isLetter(first)) {
        while (stop < tape.length && isLetter(tape.byteAt(stop))) {
          stop++;
        }
        token = wordAt(start, stop);
      } else if (isDigit(first)) {
        while (stop < tape.length && isDigit(tape.byteAt(stop))) {
          stop++;
        }
        token = NUMBER;
        number = numberAt(start, stop);
      } else {
        token = first;
      }
      next = stop;
    }

    private static boolean isLetter(int sign) {
      return sign >= 'a' && sign <= 'z';
    }

    private static boolean isDigit(int sign) {
      return sign >= '0' && sign <= '9';
    }

    /** The number there; any that is too high is one above the most. */
    private int numberAt(int start, int stop) {
      int found = 0;
      for (int at = start; at < stop; at++) {
        found = Math.min(found * 10 + tape.byteAt(at) - '0', MOST_NUMBER + 1);
      }
      return found;
    }

    private int wordAt(int start, int stop) {
      int word = FIRST_WORD;
      int matched = 0;
      for (int i = 0; i < WORDS.length(); i++) {
        char sign = WORDS.charAt(i);
        if (sign == ' ') {
          if (matched == stop - start) {
            return word;
          }
          word++;
          matched = 0;
        } else if (matched >= 0 && start + matched < stop && tape.byteAt(start + matched) == sign) {
          matched++;
        } else {
          matched = NONE;
        }
      }
      return UNKNOWN;
    }
  }

  /** Things, papers with their entries, and laws: those told, those of an image, those of a made world. */
  private static final class Book {
    static final int THINGS = 8;
    static final int PAPERS = 16;
    static final int ENTRIES = 120;
    static final int PLACES = 12;
    static final int FIELDS = 4;
    static final int TEXTS = 20;

    // A thing's row: its fields, then these.
    static final int CLAIM = 4;
    static final int GHOST = 5;
    static final int THING_ROW = 6;
    // A paper's row.
    static final int YEAR = 0;
    static final int KIN = 1;
    static final int SEEN = 2;
    static final int SIZE = 3;
    static final int PAPER_ROW = 4;
    // An entry's row, as of() numbers it.
    static final int PAPER = 0;
    static final int PLACE = 1;
    static final int THING = 2;
    static final int FIRST_FIELD = 3;
    static final int ENTRY_CLAIM = 7;
    static final int ENTRY_ROW = 8;

    final int[] things = new int[THINGS * THING_ROW];
    final int[] papers = new int[PAPERS * PAPER_ROW];
    final int[] lists = new int[PAPERS * PLACES];
    final int[] entries = new int[ENTRIES * ENTRY_ROW];
    final Text[] texts = new Text[TEXTS];
    int thingCount;
    int paperCount;
    int entryCount;
    int textCount;

    void copyFrom(Book other) {
      System.arraycopy(other.things, 0, things, 0, things.length);
      System.arraycopy(other.papers, 0, papers, 0, papers.length);
      System.arraycopy(other.lists, 0, lists, 0, lists.length);
      System.arraycopy(other.entries, 0, entries, 0, entries.length);
      for (int i = 0; i < TEXTS; i++) {
        texts[i] = other.texts[i];
      }
      thingCount = other.thingCount;
      paperCount = other.paperCount;
      entryCount = other.entryCount;
      textCount = other.textCount;
    }

    void dropPapers() {
      paperCount = 0;
      entryCount = 0;
    }

    boolean hasThing(int thing) {
      return thing >= 0 && thing < thingCount && thing < THINGS;
    }

    boolean hasPaper(int paper) {
      return paper >= 0 && paper < paperCount && paper < PAPERS;
    }

    boolean hasEntry(int entry) {
      return entry >= 0 && entry < entryCount && entry < ENTRIES;
    }

    boolean hasRoomIn(int paper) {
      return entryCount < ENTRIES && ofPaper(paper, SIZE) < PLACES;
    }

    boolean hasTrueThing() {
      for (int thing = 0; thing < thingCount; thing++) {
        if (!isGhost(thing)) {
          return true;
        }
      }
      return false;
    }

    boolean isGhost(int thing) {
      return hasThing(thing) && things[thing * THING_ROW + GHOST] == 1;
    }

    boolean isSeen(int paper, int day) {
      return day <= MOST_DAY && hasPaper(paper) && ofPaper(paper, SEEN) <= day;
    }

    int ofThing(int thing, int what) {
      return hasThing(thing) && what >= 0 && what < THING_ROW ? things[thing * THING_ROW + what] : NONE;
    }

    int ofPaper(int paper, int what) {
      return hasPaper(paper) && what >= 0 && what < PAPER_ROW ? papers[paper * PAPER_ROW + what] : NONE;
    }

    int ofEntry(int entry, int what) {
      return hasEntry(entry) && what >= 0 && what < ENTRY_ROW ? entries[entry * ENTRY_ROW + what] : NONE;
    }

    int fieldOf(int entry, int field) {
      return ofEntry(entry, FIRST_FIELD + field);
    }

    int entryAt(int paper, int place) {
      return place >= 0 && place < PLACES && place < ofPaper(paper, SIZE) ? lists[paper * PLACES + place] : NONE;
    }

    Text textAt(int i) {
      return i >= 0 && i < textCount && i < TEXTS ? texts[i] : null;
    }

    int addThing(int name, int year, int volume, int page, int claim, int ghost) {
      if (thingCount >= THINGS) {
        return NONE;
      }
      int at = thingCount * THING_ROW;
      things[at] = name;
      things[at + 1] = year;
      things[at + 2] = volume;
      things[at + 3] = page;
      things[at + CLAIM] = claim;
      things[at + GHOST] = ghost;
      thingCount++;
      return thingCount - 1;
    }

    int addPaper(int year, int kin, int seen) {
      if (paperCount >= PAPERS) {
        return NONE;
      }
      int at = paperCount * PAPER_ROW;
      papers[at + YEAR] = year;
      papers[at + KIN] = kin;
      papers[at + SEEN] = seen;
      papers[at + SIZE] = 0;
      paperCount++;
      return paperCount - 1;
    }

    int addEntry(int paper, int thing, int name, int year, int volume, int page, int claim) {
      if (!hasPaper(paper) || !hasRoomIn(paper)) {
        return NONE;
      }
      int place = ofPaper(paper, SIZE);
      int at = entryCount * ENTRY_ROW;
      entries[at + PAPER] = paper;
      entries[at + PLACE] = place;
      entries[at + THING] = thing;
      entries[at + FIRST_FIELD] = name;
      entries[at + FIRST_FIELD + 1] = year;
      entries[at + FIRST_FIELD + 2] = volume;
      entries[at + FIRST_FIELD + 3] = page;
      entries[at + ENTRY_CLAIM] = claim;
      lists[paper * PLACES + place] = entryCount;
      papers[paper * PAPER_ROW + SIZE] = place + 1;
      entryCount++;
      return entryCount - 1;
    }

    int addText(Text text) {
      if (textCount >= TEXTS) {
        return NONE;
      }
      texts[textCount] = text;
      textCount++;
      return textCount - 1;
    }

    void setField(int entry, int field, int value) {
      if (hasEntry(entry) && field >= 0 && field < FIELDS) {
        entries[entry * ENTRY_ROW + FIRST_FIELD + field] = value;
      }
    }

    boolean areAlike(int a, int b) {
      for (int what = THING; what < ENTRY_CLAIM; what++) {
        if (ofEntry(a, what) != ofEntry(b, what)) {
          return false;
        }
      }
      return true;
    }

    /** How many fields are not right in one entry and right in another one of its thing. */
    int fieldsMadeRight(int before, int after) {
      int thing = ofEntry(after, THING);
      int made = 0;
      for (int field = 0; field < FIELDS; field++) {
        int right = ofThing(thing, field);
        if (fieldOf(after, field) == right && fieldOf(before, field) != right) {
          made++;
        }
      }
      return made;
    }

    /** The things of a paper's list, as bits. */
    int thingsIn(int paper) {
      int found = 0;
      for (int place = 0; place < ofPaper(paper, SIZE); place++) {
        found |= 1 << ofEntry(entryAt(paper, place), THING);
      }
      return found;
    }
  }

  /** What the laws of a book tell of a slip, an entry, a paper that lifts from another one. */
  private static final class Laws {
    // What may be asked, as the reader numbers these words.
    static final int FIELD = 0;
    static final int FROM = 1;
    static final int TO = 2;
    static final int YEAR = 3;
    static final int YEARS = 4;
    static final int THING = 5;
    static final int CLAIM = 6;
    static final int FIRST_KIND = 7;
    static final int KIN = 10;
    static final int GHOST = 11;
    static final int WORDS = 12;

    static final int UNTOLD_SLIP = 9;
    static final int UNTOLD_LOOK = 5;
    static final int UNTOLD_OPEN = 3;
    static final int UNTOLD_BIRTH = 20;
    static final int MOST_TOLD = 1000;
    static final long UNBROKEN = 1_000_000_000L;

    final int[] asked = new int[WORDS];
    final long[] stack = new long[Reader.MOST_LEAVES + 2];
    long answer;

    /** What "slip" tells of all fields in which an entry is unlike the one that it is lifted from. */
    int slipsBetween(Book book, int from, int entry) {
      int thing = book.ofEntry(entry, Book.THING);
      int sum = 0;
      for (int field = 0; field < Book.FIELDS; field++) {
        int was = book.fieldOf(from, field);
        int is = book.fieldOf(entry, field);
        if (was != is) {
          sum += slipTells(book, thing, field, was, is);
        }
      }
      return sum;
    }

    /** What it costs to look at an entry's thing, and to slip in the fields that are not right. */
    int lookCosts(Book book, int entry) {
      int thing = book.ofEntry(entry, Book.THING);
      int sum = entryTells(book, entry, Reader.LOOK, UNTOLD_LOOK);
      for (int field = 0; field < Book.FIELDS; field++) {
        int right = book.ofThing(thing, field);
        int is = book.fieldOf(entry, field);
        if (right != is) {
          sum += slipTells(book, thing, field, right, is);
        }
      }
      return sum;
    }

    int birthCosts(Book book, int entry) {
      return entryTells(book, entry, Reader.BIRTH, UNTOLD_BIRTH);
    }

    int slipTells(Book book, int thing, int field, int was, int is) {
      if (book.textCount == 0) {
        return UNTOLD_SLIP;
      }
      askThing(book, thing);
      asked[FIELD] = field;
      asked[FROM] = was;
      asked[TO] = is;
      int kind = slipKind(was, is);
      if (kind >= NEAR && kind <= DROP) {
        asked[FIRST_KIND + kind - NEAR] = 1;
      }
      int told = tell(book, Reader.SLIP);
      return told == NONE ? UNTOLD_SLIP : told;
    }

    private int entryTells(Book book, int entry, int head, int untold) {
      askThing(book, book.ofEntry(entry, Book.THING));
      asked[YEAR] = book.ofPaper(book.ofEntry(entry, Book.PAPER), Book.YEAR);
      int told = tell(book, head);
      return told == NONE ? untold : told;
    }

    int openTells(Book book, int paper, int source) {
      askPapers(book, paper, source);
      int told = tell(book, Reader.OPEN);
      return told == NONE ? UNTOLD_OPEN : told;
    }

    boolean bars(Book book, int paper, int other) {
      askPapers(book, paper, other);
      return tell(book, Reader.BAR) != NONE;
    }

    private void askThing(Book book, int thing) {
      Arrays.fill(asked, 0);
      asked[THING] = thing;
      asked[CLAIM] = book.ofThing(thing, Book.CLAIM);
      asked[GHOST] = book.isGhost(thing) ? 1 : 0;
    }

    private void askPapers(Book book, int paper, int other) {
      Arrays.fill(asked, 0);
      asked[YEAR] = book.ofPaper(paper, Book.YEAR);
      asked[YEARS] = book.ofPaper(paper, Book.YEAR) - book.ofPaper(other, Book.YEAR);
      asked[KIN] = book.ofPaper(paper, Book.KIN) == book.ofPaper(other, Book.KIN) ? 1 : 0;
    }

    /** What a head tells, by the last of its clauses that holds; NONE if none does. */
    private int tell(Book book, int head) {
      for (int i = book.textCount - 1; i >= 0; i--) {
        Text text = book.textAt(i);
        if (text == null) {
          return NONE;
        }
        int[] clauses = text.clauses;
        for (int at = clauses.length - Text.CLAUSE_ROW; at >= 0; at -= Text.CLAUSE_ROW) {
          if (clauses[at + Text.HEAD] != head) {
            continue;
          }
          int test = clauses[at + Text.TEST];
          boolean so = works(text.code, test, clauses[at + Text.STOP]) && answer != 0;
          if (so && works(text.code, clauses[at + Text.SUM], test)) {
            return (int) Math.max(0, Math.min(answer, MOST_TOLD));
          }
        }
      }
      return NONE;
    }

    /** Works a piece of code out: the answer; false if it is broken. A test that is not there is so. */
    private boolean works(int[] code, int start, int stop) {
      int top = -1;
      answer = 1;
      if (start < 0 || stop > code.length) {
        return false;
      }
      for (int at = start; at < stop; at++) {
        int sign = code[at];
        boolean word = sign >= Reader.FIRST_WORD && sign < Reader.SLIP;
        boolean followed = sign == Reader.NUMBER || sign == Reader.AND || sign == Reader.OR;
        if (top + 1 >= stack.length || followed && at + 1 >= stop || !word && sign != Reader.NUMBER && top < 0) {
          return false;
        }
        if (word) {
          top++;
          stack[top] = asked[sign - Reader.FIRST_WORD];
        } else if (sign == Reader.NUMBER) {
          top++;
          at++;
          stack[top] = code[at];
        } else if (sign == Reader.NOT) {
          stack[top] = 1 - stack[top];
        } else if (followed) {
          at++;
          boolean so = stack[top] != 0;
          if (so == (sign == Reader.OR)) {
            // What stands behind can't matter any more. One goes on ahead, never back.
            at = Math.max(at, code[at] - 1);
          } else {
            top--;
          }
        } else {
          if (top < 1 || !joins(sign, top)) {
            return false;
          }
          top--;
        }
      }
      if (top >= 0) {
        answer = stack[0];
      }
      return true;
    }

    /** Puts what a sign makes of the two topmost numbers in the lower one's place; false if it is broken. */
    private boolean joins(int sign, int top) {
      long left = stack[top - 1];
      long right = stack[top];
      long made;
      switch (sign) {
        case '+':
          made = left + right;
          break;
        case '-':
          made = left - right;
          break;
        case '*':
          made = left * right;
          break;
        case '/':
          if (right == 0) {
            return false;
          }
          made = left / right;
          break;
        case '<':
          made = left < right ? 1 : 0;
          break;
        case '>':
          made = left > right ? 1 : 0;
          break;
        default:
          made = left == right ? 1 : 0;
          break;
      }
      stack[top - 1] = made;
      return made <= UNBROKEN && made >= -UNBROKEN;
    }
  }

  /** All ways to choose for one paper: what its sources, looks and lifts cost, and the cheapest choice. */
  private static final class Chooser {
    static final int SOURCES = 9;
    /** More than all ways together can cost, yet far from an int's end. */
    static final int NO_WAY = 100_000_000;

    final Laws laws;
    Book book;
    int paper;
    int size;
    int sourceCount;
    final int[] opens = new int[SOURCES];
    /** Of each place in the list: what the entry costs LOOKED or BORN. */
    final int[] looks = new int[Book.PLACES];
    final boolean[] ghosts = new boolean[Book.PLACES];
    /** Of each source, then place: what the entry costs at least if lifted from there, and from which entry. */
    final int[] lifts = new int[SOURCES * Book.PLACES];
    final int[] lifted = new int[SOURCES * Book.PLACES];
    /** Rows for the sets of sources at hand, see rowFor: the cheapest lifts, and what all open. */
    final int[] cheapest = new int[(SOURCES + 1) * Book.PLACES];
    final int[] opened = new int[SOURCES + 1];
    final int[] dearer = new int[Book.PLACES];
    int leastSum;
    int leastBits;

    Chooser(Laws laws) {
      this.laws = laws;
    }

    /** Reckons what all costs for a paper whose sources are those of a set. */
    void load(Book book, int paper, int set) {
      this.book = book;
      this.paper = paper;
      size = Math.max(0, Math.min(Book.PLACES, book.ofPaper(paper, Book.SIZE)));
      for (int place = 0; place < size; place++) {
        int entry = book.entryAt(paper, place);
        ghosts[place] = book.isGhost(book.ofEntry(entry, Book.THING));
        looks[place] = ghosts[place] ? laws.birthCosts(book, entry) : laws.lookCosts(book, entry);
      }
      sourceCount = 0;
      Arrays.fill(lifts, NO_WAY);
      for (int other = 0; other < Book.PAPERS; other++) {
        if ((set >> other & 1) == 0 || sourceCount >= SOURCES) {
          continue;
        }
        opens[sourceCount] = laws.openTells(book, paper, other);
        for (int i = 0; i < book.ofPaper(other, Book.SIZE); i++) {
          int origin = book.entryAt(other, i);
          for (int place = 0; place < size; place++) {
            int entry = book.entryAt(paper, place);
            if (book.ofEntry(origin, Book.THING) == book.ofEntry(entry, Book.THING)) {
              offer(sourceCount * Book.PLACES + place, origin, laws.slipsBetween(book, origin, entry));
            }
          }
        }
        sourceCount++;
      }
    }

    /** Keeps the cheaper way; of alike ones the first, which has the lower number. */
    private void offer(int at, int origin, int costs) {
      if (at >= 0 && at < lifts.length && costs < lifts[at]) {
        lifts[at] = costs;
        lifted[at] = origin;
      }
    }

    /** Finds the cheapest choice of sources. */
    void search() {
      leastSum = NO_WAY;
      leastBits = 0;
      for (int bits = 0; bits < 1 << sourceCount; bits++) {
        int sum = sumAt(rowFor(bits));
        boolean fewer = Integer.bitCount(bits) < Integer.bitCount(leastBits);
        if (sum < leastSum || sum == leastSum && fewer) {
          leastSum = sum;
          leastBits = bits;
        }
      }
    }

    /**
     * The row for a set of sources, made from that of the set without its lowest one, which must be
     * the latest made of its lowest: so it is when sets are counted up, or grow downwards.
     */
    private int rowFor(int bits) {
      int rest = bits & (bits - 1);
      int row = bits == 0 ? SOURCES : Integer.numberOfTrailingZeros(bits);
      int before = rest == 0 ? SOURCES : Integer.numberOfTrailingZeros(rest);
      if (bits == 0 || row >= SOURCES || before > SOURCES) {
        Arrays.fill(cheapest, SOURCES * Book.PLACES, cheapest.length, NO_WAY);
        opened[SOURCES] = 0;
        return SOURCES;
      }
      for (int place = 0; place < size; place++) {
        int at = row * Book.PLACES + place;
        cheapest[at] = Math.min(cheapest[before * Book.PLACES + place], lifts[at]);
      }
      opened[row] = opened[before] + opens[row];
      return row;
    }

    private int sumAt(int row) {
      int sum = opened[row];
      for (int place = 0; place < size; place++) {
        sum += Math.min(looks[place], cheapest[row * Book.PLACES + place]);
      }
      return sum;
    }

    /** The row for one set of sources alone. */
    private int rowAlone(int bits) {
      int row = rowFor(0);
      for (int source = SOURCES - 1; source >= 0; source--) {
        if ((bits >> source & 1) == 1) {
          row = rowFor(bits >> source << source);
        }
      }
      return row;
    }

    int sumWith(int bits) {
      return sumAt(rowAlone(bits));
    }

    /** Writes down from which entry each one is by the cheapest choice. */
    void tellOrigins(int[] origins) {
      int row = rowAlone(leastBits);
      for (int place = 0; place < size; place++) {
        int entry = book.entryAt(paper, place);
        if (entry >= 0 && entry < origins.length) {
          int costs = cheapest[row * Book.PLACES + place];
          origins[entry] = looks[place] <= costs ? NONE : firstAt(place, costs);
        }
      }
    }

    /** The first entry, by chosen source, from which lifting costs so much. */
    private int firstAt(int place, int costs) {
      for (int source = 0; source < sourceCount; source++) {
        int at = source * Book.PLACES + place;
        if ((leastBits >> source & 1) == 1 && lifts[at] == costs) {
          return lifted[at];
        }
      }
      return NONE;
    }

    /** Writes down, from a place on, the least sum with just 0, 1, 2 .. entries LOOKED, if it is not above a bound. */
    void tellLooked(int[] sums, int first, int bound) {
      if (first < 0 || first + Book.PLACES >= sums.length) {
        return;
      }
      Arrays.fill(sums, first, first + Book.PLACES + 1, NO_WAY);
      for (int bits = 0; bits < 1 << sourceCount; bits++) {
        int row = rowFor(bits);
        if (sumAt(row) <= bound) {
          noteLooked(row, sums, first);
        }
      }
    }

    private void noteLooked(int row, int[] sums, int first) {
      int sum = opened[row];
      int looked = 0;
      int free = 0;
      for (int place = 0; place < size; place++) {
        int lift = cheapest[row * Book.PLACES + place];
        if (ghosts[place]) {
          sum += Math.min(looks[place], lift);
        } else if (lift == NO_WAY) {
          sum += looks[place];
          looked++;
        } else {
          sum += lift;
          sortIn(looks[place] - lift, free);
          free++;
        }
      }
      sums[first + looked] = Math.min(sums[first + looked], sum);
      for (int i = 0; i < free; i++) {
        sum += dearer[i];
        looked++;
        sums[first + looked] = Math.min(sums[first + looked], sum);
      }
    }

    /** Puts how much dearer a look is than a lift among so many that are in order. */
    private void sortIn(int costs, int many) {
      int at = Math.min(many, dearer.length - 1);
      while (at > 0 && dearer[at - 1] > costs) {
        dearer[at] = dearer[at - 1];
        at--;
      }
      dearer[at] = costs;
    }
  }

  /** The leasts of a book's papers. What is found is kept until the book changes. */
  private static final class Leasts {
    static final int UNKNOWN = -1;
    static final int LOOKED_ROW = Book.PLACES + 1;

    final Book book;
    final Laws laws;
    final Chooser chooser;
    /** Of each paper: from which ones it may lift whenever they are seen, as bits. */
    final int[] open = new int[Book.PAPERS];
    /** Of each paper: for which sources, as bits, its least and its looks have been found. */
    final int[] settled = new int[Book.PAPERS];
    final int[] reached = new int[Book.PAPERS];
    final int[] sums = new int[Book.PAPERS];
    final int[] bits = new int[Book.PAPERS];
    final int[] origins = new int[Book.ENTRIES];
    final int[] looked = new int[Book.PAPERS * LOOKED_ROW];
    final int[] together = new int[Book.ENTRIES + 1];

    Leasts(Book book, Laws laws, Chooser chooser) {
      this.book = book;
      this.laws = laws;
      this.chooser = chooser;
      Arrays.fill(open, UNKNOWN);
      Arrays.fill(settled, UNKNOWN);
      Arrays.fill(reached, UNKNOWN);
    }

    void forget() {
      Arrays.fill(open, UNKNOWN);
      Arrays.fill(settled, UNKNOWN);
      Arrays.fill(reached, UNKNOWN);
    }

    /** The sources of a paper as seen on a day, as bits. */
    int sourcesOf(int paper, int day) {
      if (!book.hasPaper(paper)) {
        return 0;
      }
      if (open[paper] == UNKNOWN) {
        open[paper] = openTo(paper);
      }
      int found = 0;
      for (int other = 0; other < Book.PAPERS; other++) {
        boolean may = (open[paper] >> other & 1) == 1 && book.isSeen(other, day);
        if (may && Integer.bitCount(found) < Chooser.SOURCES) {
          found |= 1 << other;
        }
      }
      return found;
    }

    private int openTo(int paper) {
      int things = book.thingsIn(paper);
      int year = book.ofPaper(paper, Book.YEAR);
      int found = 0;
      for (int other = 0; other < book.paperCount; other++) {
        boolean ahead = book.ofPaper(other, Book.YEAR) < year;
        if (ahead && (book.thingsIn(other) & things) != 0 && !laws.bars(book, paper, other)) {
          found |= 1 << other;
        }
      }
      return found;
    }

    /** Finds the leasts of those papers of a range that are seen on a day. */
    void settle(int first, int stop, int day) {
      for (int paper = first; paper < stop; paper++) {
        if (!book.isSeen(paper, day)) {
          continue;
        }
        int sources = sourcesOf(paper, day);
        if (settled[paper] != sources) {
          chooser.load(book, paper, sources);
          chooser.search();
          chooser.tellOrigins(origins);
          sums[paper] = chooser.leastSum;
          bits[paper] = chooser.leastBits;
          settled[paper] = sources;
        }
      }
    }

    int sumOf(int paper) {
      return book.hasPaper(paper) ? sums[paper] : NONE;
    }

    int bitsOf(int paper) {
      return book.hasPaper(paper) ? bits[paper] : NONE;
    }

    int originOf(int entry) {
      return book.hasEntry(entry) ? origins[entry] : NONE;
    }

    int sumOfAll(int day) {
      int sum = 0;
      for (int paper = 0; paper < book.paperCount; paper++) {
        if (book.isSeen(paper, day)) {
          sum += sums[paper];
        }
      }
      return sum;
    }

    boolean comesFrom(int entry, int first) {
      int origin = originOf(entry);
      // Each step leads to an earlier year, so that there are fewer steps than papers.
      for (int step = 0; step < Book.PAPERS && origin != NONE; step++) {
        if (origin == first) {
          return true;
        }
        origin = originOf(origin);
      }
      return false;
    }

    /** Finds what so and so many looks cost in all the papers seen on a day, whose leasts are settled. */
    void reachAll(int day) {
      Arrays.fill(together, Chooser.NO_WAY);
      together[0] = 0;
      for (int paper = 0; paper < book.paperCount; paper++) {
        if (!book.isSeen(paper, day)) {
          continue;
        }
        int sources = sourcesOf(paper, day);
        if (reached[paper] != sources) {
          chooser.load(book, paper, sources);
          chooser.tellLooked(looked, paper * LOOKED_ROW, sums[paper] + MOST_SLACK);
          reached[paper] = sources;
        }
        joinLooked(paper * LOOKED_ROW);
      }
    }

    private void joinLooked(int first) {
      for (int many = together.length - 1; many >= 0; many--) {
        int sum = Chooser.NO_WAY;
        for (int more = 0; more < LOOKED_ROW && more <= many && first + more < looked.length; more++) {
          sum = Math.min(sum, together[many - more] + looked[first + more]);
        }
        together[many] = sum;
      }
    }

    /** How many looks there are at least, at most, in all if the sum is not above a bound. */
    int lookedWithin(int bound, boolean most) {
      int found = NONE;
      for (int many = 0; many < together.length; many++) {
        if (together[many] <= bound && (most || found == NONE)) {
          found = many;
        }
      }
      return found;
    }
  }

  /** Makes a world of the things of a book, and keeps how it was made. */
  private static final class Maker {
    static final int MODULUS = 1_000_003;

    final Book made = new Book();
    final int[] origins = new int[Book.ENTRIES];
    int looked;
    int state;

    void make(Book told, int seed, int papers) {
      made.copyFrom(told);
      made.dropPapers();
      looked = 0;
      state = seed;
      for (int paper = 0; paper < papers; paper++) {
        made.addPaper(paper, draw(2), 0);
        for (int thing = 0; thing < made.thingCount; thing++) {
          if (!made.isGhost(thing) && draw(3) != 0) {
            makeEntry(paper, thing);
          }
        }
      }
    }

    int originOf(int entry) {
      return made.hasEntry(entry) ? origins[entry] : NONE;
    }

    private void makeEntry(int paper, int thing) {
      int origin = NONE;
      if (paper != 0 && draw(4) != 0) {
        int having = countOf(thing);
        if (having > 0) {
          origin = pick(thing, draw(having));
        }
      }
      int claim = made.ofThing(thing, Book.CLAIM);
      int entry = made.addEntry(paper, thing, 0, 0, 0, 0, claim);
      if (!made.hasEntry(entry)) {
        return;
      }
      origins[entry] = origin;
      if (origin == NONE) {
        looked++;
      }
      for (int field = 0; field < Book.FIELDS; field++) {
        int value = origin == NONE ? made.ofThing(thing, field) : made.fieldOf(origin, field);
        made.setField(entry, field, value);
      }
      if (draw(6) == 0) {
        int field = draw(Book.FIELDS);
        made.setField(entry, field, (made.fieldOf(entry, field) * 7 + draw(10_000)) % 10_000);
      }
    }

    /** How many papers ahead have a thing: each has it once at most, and this one not yet. */
    private int countOf(int thing) {
      int found = 0;
      for (int entry = 0; entry < made.entryCount; entry++) {
        if (made.ofEntry(entry, Book.THING) == thing) {
          found++;
        }
      }
      return found;
    }

    private int pick(int thing, int i) {
      int before = 0;
      for (int entry = 0; entry < made.entryCount; entry++) {
        if (made.ofEntry(entry, Book.THING) == thing) {
          if (before == i) {
            return entry;
          }
          before++;
        }
      }
      return NONE;
    }

    private int draw(int n) {
      state = (state * 1103 + 12_345) % MODULUS;
      return n > 0 ? state % n : 0;
    }
  }
}
