/** A program's parts laid for the fetch; ../shared/DOC.md says what each call promises. */
public final class FetchOrder {
  public static final int NONE = -1;

  private static final int MOST_FUNCTIONS = 8;
  private static final int MOST_BLOCKS = 40;
  private static final int MOST_ARCS = MOST_FUNCTIONS + 2 * MOST_BLOCKS;
  private static final int MOST_CALLS = 2;
  private static final int MOST_BYTES = 900;
  private static final int MOST_ACTS = 6;
  private static final int MOST_KEPT = 16;
  private static final int MOST_COUNT = 9999;
  private static final int MOST_STEPS = 200;
  private static final int LEAST_PAGE = 16;
  private static final int MOST_PAGE = 512;
  // 40 blocks of 99 bytes and a jump of 2 each, over pages of 16, are 253 pages.
  private static final int MOST_PAGES = 256;
  private static final int MOST_TRIED = 7;
  private static final int JUMP_BYTES = 2;

  private static final int RETURN = 0;
  private static final int GO = 1;
  private static final int EITHER = 2;

  private static final int SOURCE = 0;
  private static final int CHAINED = 1;
  private static final int CLUSTERED = 2;
  private static final int STARTED = 3;
  private static final int OWN = 4;
  private static final int ORDERS = 5;

  private static final int CANT_BE = 1;
  private static final int NO_SUCH = 2;
  private static final int THERE_IS_NONE = 3;
  private static final int IS_SO_ALREADY = 4;
  private static final int TOO_MANY = 5;
  private static final int FAULTY = 9;

  private static final int[] AS_TOLD = {0, 1, 2, 3, 4, 5, 6, 7};

  private final byte[] tape = new byte[MOST_BYTES];
  private int taped;
  private int state;
  private int faultKind = NONE;
  private int faultPlace = NONE;
  private final Program program = new Program();
  private final Reader reader = new Reader(tape);
  private final History history = new History();
  private final Flows flows = new Flows(program);
  private final Chains chains = new Chains(program, flows);
  private final Clusters clusters = new Clusters(program, flows);
  private final Layout[] layouts = new Layout[ORDERS];
  private final Pages pages = new Pages();
  private final Walk walk = new Walk(program, flows);
  private final Paper paper = new Paper(program, flows);

  public FetchOrder() {
    for (int how = 0; how < ORDERS; how++) {
      layouts[how] = new Layout(program, flows);
    }
  }

  public int status() {
    return state;
  }

  public int feed(int a, int b, int c, int d, int e) {
    if (taped + 20 > MOST_BYTES) {
      return NONE;
    }
    write(a);
    write(b);
    write(c);
    write(d);
    write(e);
    return taped;
  }

  public int load(int n) {
    if (n < 0 || n > taped) {
      return refuse(CANT_BE);
    }
    reader.read(n);
    taped = 0;
    faultKind = reader.kind;
    faultPlace = reader.kind == 0 ? NONE : reader.place;
    if (reader.kind != 0) {
      return refuse(FAULTY);
    }
    history.keep(program);
    program.copy(reader.draft);
    workOut();
    return answer(program.blocks);
  }

  public int fault(int what) {
    if (what == 0) {
      return faultKind;
    }
    return what == 1 ? faultPlace : NONE;
  }

  public int many(int what) {
    switch (what) {
      case 0: return answer(program.functions);
      case 1: return answer(program.blocks);
      case 2: return answer(program.arcs);
      case 3: return answer(program.cold);
      case 4: return answer(program.page);
      case 5: return answer(program.kept);
      case 6: return answer(program.traced);
      case 7: return answer(flows.broken());
      case 8: return answer(flows.mending());
      case 9: return answer(clusters.groups);
      case 10: return answer(history.acts);
      default: return refuse(CANT_BE);
    }
  }

  public int function(int function, int what) {
    if (what < 0 || what > 7) {
      return refuse(CANT_BE);
    }
    if (!isFunction(function)) {
      return refuse(NO_SUCH);
    }
    switch (what) {
      case 0: return answer(program.members[function]);
      case 1: return answer(program.entryOf(function));
      case 2: return answer(program.bytesOf(function));
      case 3: return answer(flows.heat[program.entryOf(function)]);
      case 4: return answer(chains.groups[function]);
      case 5: return answer(clusters.spot[function]);
      case 6: return answer(clusters.caller[function]);
      default: return answer(program.placeInTrace(function));
    }
  }

  public int block(int block, int what) {
    if (what < 0 || what > 9) {
      return refuse(CANT_BE);
    }
    if (!isBlock(block)) {
      return refuse(NO_SUCH);
    }
    switch (what) {
      case 0: return answer(program.owner[block]);
      case 1: return answer(program.size[block]);
      case 2: return answer(program.end[block]);
      case 3: return answer(program.firstArc[block]);
      case 4: return answer(flows.heat[block]);
      case 5: return answer(chains.number[block]);
      case 6: return answer(chains.cold[block] ? 1 : 0);
      case 7: return answer(program.callsOf(block));
      case 8: return answer(program.called[MOST_CALLS * block]);
      default: return answer(program.called[MOST_CALLS * block + 1]);
    }
  }

  public int arc(int arc, int what) {
    if (what < 0 || what > 4) {
      return refuse(CANT_BE);
    }
    if (!isArc(arc)) {
      return refuse(NO_SUCH);
    }
    switch (what) {
      case 0: return answer(program.from[arc]);
      case 1: return answer(program.to[arc]);
      case 2: return answer(program.counts[arc]);
      case 3: return answer(flows.flow[arc]);
      default: return answer(flows.taken[arc] ? 1 : 0);
    }
  }

  public int weight(int function, int other) {
    if (!isFunction(function) || !isFunction(other)) {
      return refuse(NO_SUCH);
    }
    return answer(clusters.pull(function, other));
  }

  public int order(int how, int i) {
    if (!isOrder(how) || i < 0) {
      return refuse(CANT_BE);
    }
    if (i >= program.blocks) {
      return refuse(THERE_IS_NONE);
    }
    return answer(layouts[how].line[i]);
  }

  public int place(int how, int block, int what) {
    if (!isOrder(how) || what < 0 || what > 4) {
      return refuse(CANT_BE);
    }
    if (!isBlock(block)) {
      return refuse(NO_SUCH);
    }
    Layout layout = layouts[how];
    switch (what) {
      case 0: return answer(layout.spot[block]);
      case 1: return answer(layout.address[block]);
      case 2: return answer(layout.bytes[block]);
      case 3: return answer(layout.firstPage(block));
      default: return answer(layout.lastPage(block));
    }
  }

  public int falls(int how, int arc) {
    if (!isOrder(how)) {
      return refuse(CANT_BE);
    }
    if (!isArc(arc)) {
      return refuse(NO_SUCH);
    }
    return answer(layouts[how].isFall(arc) ? 1 : 0);
  }

  public int cost(int how, int what) {
    if (!isOrder(how)) {
      return refuse(CANT_BE);
    }
    Layout layout = layouts[how];
    switch (what) {
      case 0: return answer(layout.allJumps());
      case 1: return answer(layout.total);
      case 2: return answer(layout.turned());
      case 3: return answer(layout.pageCount());
      case 4: return answer(layout.touched(pages));
      case 5: return answer(layout.fallCount());
      default: return refuse(CANT_BE);
    }
  }

  public int jumps(int how, int function) {
    if (!isOrder(how)) {
      return refuse(CANT_BE);
    }
    if (!isFunction(function)) {
      return refuse(NO_SUCH);
    }
    return answer(layouts[how].jumpsOf(function));
  }

  public int least(int function) {
    if (!isFunction(function)) {
      return refuse(NO_SUCH);
    }
    if (program.members[function] > MOST_TRIED) {
      return refuse(TOO_MANY);
    }
    return answer(paper.leastJumps(function));
  }

  public int run(int how, int function, int steps, int seed, int what) {
    boolean counted = steps >= 1 && steps <= MOST_STEPS && seed >= 0 && seed <= MOST_COUNT;
    if (!isOrder(how) || !counted || what < 0 || what > 3) {
      return refuse(CANT_BE);
    }
    if (!isFunction(function)) {
      return refuse(NO_SUCH);
    }
    pages.clear();
    walk.follow(layouts[how], pages, function, steps, seed);
    switch (what) {
      case 0: return answer(walk.steps);
      case 1: return answer(walk.misses);
      case 2: return answer(walk.leaps);
      default: return answer(pages.size);
    }
  }

  public int count(int arc, int count) {
    if (count < 0 || count > MOST_COUNT) {
      return refuse(CANT_BE);
    }
    if (!isArc(arc)) {
      return refuse(NO_SUCH);
    }
    int was = program.counts[arc];
    if (was == count) {
      return refuse(IS_SO_ALREADY);
    }
    history.keep(program);
    program.counts[arc] = count;
    workOut();
    return answer(was);
  }

  public int set(int what, int much) {
    if (!Program.canBe(what, much)) {
      return refuse(CANT_BE);
    }
    int was = program.setting(what);
    if (was == much) {
      return refuse(IS_SO_ALREADY);
    }
    history.keep(program);
    program.change(what, much);
    workOut();
    return answer(was);
  }

  public int take(int how) {
    if (!isOrder(how) || how == OWN) {
      return refuse(CANT_BE);
    }
    if (layouts[how].isLine(program.own)) {
      return refuse(IS_SO_ALREADY);
    }
    history.keep(program);
    System.arraycopy(layouts[how].line, 0, program.own, 0, MOST_BLOCKS);
    layouts[OWN].byLine(program.own);
    return answer(layouts[OWN].allJumps());
  }

  public int move(int block, int place) {
    if (!isPlace(place)) {
      return refuse(CANT_BE);
    }
    if (!isBlock(block)) {
      return refuse(NO_SUCH);
    }
    int was = layouts[OWN].spot[block];
    if (was == place) {
      return refuse(IS_SO_ALREADY);
    }
    history.keep(program);
    program.shift(was, place);
    layouts[OWN].byLine(program.own);
    return answer(layouts[OWN].allJumps());
  }

  public int undo() {
    if (history.acts == 0) {
      return refuse(THERE_IS_NONE);
    }
    history.bringBack(program);
    workOut();
    return answer(history.acts);
  }

  public int moved(int block, int place) {
    if (!isPlace(place)) {
      return refuse(CANT_BE);
    }
    if (!isBlock(block)) {
      return refuse(NO_SUCH);
    }
    paper.leaveOut(block);
    return answer(paper.jumpsAt(block, place));
  }

  public int best(int what) {
    if (what < 0 || what > 2) {
      return refuse(CANT_BE);
    }
    paper.seekBest(layouts[OWN].allJumps());
    if (paper.bestBlock == NONE) {
      return refuse(THERE_IS_NONE);
    }
    switch (what) {
      case 0: return answer(paper.bestBlock);
      case 1: return answer(paper.bestPlace);
      default: return answer(paper.bestJumps);
    }
  }

  public int enough(int arc) {
    if (!isArc(arc)) {
      return refuse(NO_SUCH);
    }
    int least = leastThatFalls(arc);
    return least == NONE ? refuse(THERE_IS_NONE) : answer(least);
  }

  private int refuse(int why) {
    state = why;
    return NONE;
  }

  private int answer(int value) {
    state = 0;
    return value;
  }

  private boolean isOrder(int how) {
    return how >= 0 && how < ORDERS;
  }

  private boolean isFunction(int function) {
    return function >= 0 && function < program.functions;
  }

  private boolean isBlock(int block) {
    return block >= 0 && block < program.blocks;
  }

  private boolean isArc(int arc) {
    return arc >= 0 && arc < program.arcs;
  }

  private boolean isPlace(int place) {
    return place >= 0 && place < program.blocks;
  }

  private void write(int four) {
    for (int shift = 24; shift >= 0 && taped < MOST_BYTES; shift -= 8) {
      tape[taped] = (byte) (four >> shift);
      taped++;
    }
  }

  /** Everything that follows from what was told; done after each ACT, so that questions only look up. */
  private void workOut() {
    for (int function = 0; function < program.functions; function++) {
      flows.mend(function);
      chains.join(function);
    }
    clusters.gather();
    layouts[SOURCE].byLine(program.listed);
    layouts[CHAINED].byFunctions(AS_TOLD, chains);
    layouts[CLUSTERED].byFunctions(clusters.line, chains);
    layouts[STARTED].byFunctions(clusters.startLine, chains);
    layouts[OWN].byLine(program.own);
  }

  private int leastThatFalls(int arc) {
    if (!program.isInside(arc)) {
      return NONE;
    }
    int was = program.counts[arc];
    int found = NONE;
    for (int tried = 0; tried <= 9900 && found == NONE; tried += 100) {
      tryCount(arc, tried);
      if (layouts[CHAINED].isFall(arc)) {
        found = tried;
      }
    }
    tryCount(arc, was);
    return found;
  }

  /** Works out CHAINED alone, and only what the ARC's FUNCTION changes in it. */
  private void tryCount(int arc, int tried) {
    int function = program.owner[program.from[arc]];
    program.counts[arc] = tried;
    flows.mend(function);
    chains.join(function);
    layouts[CHAINED].byFunctions(AS_TOLD, chains);
  }

  /** Puts ids with the greatest key first; ids with like keys stay as they were. */
  private static void sortDown(int[] ids, int n, int[] keys) {
    for (int i = 1; i < n; i++) {
      int id = ids[i];
      int j = i;
      while (j > 0 && keys[ids[j - 1]] < keys[id]) {
        ids[j] = ids[j - 1];
        j--;
      }
      ids[j] = id;
    }
  }

  /** What was told, by the text and by ACTS: just what undo() must bring back. */
  private static final class Program {
    int functions;
    int blocks;
    int arcs;
    int cold;
    int page = 64;
    int kept = 4;
    int traced;
    final int[] members = new int[MOST_FUNCTIONS];
    final int[] firstListed = new int[MOST_FUNCTIONS];
    final int[] listed = new int[MOST_BLOCKS];
    final int[] owner = new int[MOST_BLOCKS];
    final int[] size = new int[MOST_BLOCKS];
    final int[] end = new int[MOST_BLOCKS];
    final int[] called = new int[MOST_CALLS * MOST_BLOCKS];
    final int[] firstArc = new int[MOST_BLOCKS];
    final int[] from = new int[MOST_ARCS];
    final int[] to = new int[MOST_ARCS];
    final int[] counts = new int[MOST_ARCS];
    final int[] trace = new int[MOST_FUNCTIONS];
    final int[] own = new int[MOST_BLOCKS];

    void clear() {
      functions = 0;
      blocks = 0;
      arcs = 0;
      cold = 0;
      page = 64;
      kept = 4;
      traced = 0;
    }

    void copy(Program other) {
      functions = other.functions;
      blocks = other.blocks;
      arcs = other.arcs;
      cold = other.cold;
      page = other.page;
      kept = other.kept;
      traced = other.traced;
      System.arraycopy(other.members, 0, members, 0, MOST_FUNCTIONS);
      System.arraycopy(other.firstListed, 0, firstListed, 0, MOST_FUNCTIONS);
      System.arraycopy(other.listed, 0, listed, 0, MOST_BLOCKS);
      System.arraycopy(other.owner, 0, owner, 0, MOST_BLOCKS);
      System.arraycopy(other.size, 0, size, 0, MOST_BLOCKS);
      System.arraycopy(other.end, 0, end, 0, MOST_BLOCKS);
      System.arraycopy(other.called, 0, called, 0, MOST_CALLS * MOST_BLOCKS);
      System.arraycopy(other.firstArc, 0, firstArc, 0, MOST_BLOCKS);
      System.arraycopy(other.from, 0, from, 0, MOST_ARCS);
      System.arraycopy(other.to, 0, to, 0, MOST_ARCS);
      System.arraycopy(other.counts, 0, counts, 0, MOST_ARCS);
      System.arraycopy(other.trace, 0, trace, 0, MOST_FUNCTIONS);
      System.arraycopy(other.own, 0, own, 0, MOST_BLOCKS);
    }

    static boolean canBe(int what, int much) {
      switch (what) {
        case 0: return much >= 0 && much <= MOST_COUNT;
        case 1: return much >= LEAST_PAGE && much <= MOST_PAGE;
        case 2: return much >= 1 && much <= MOST_KEPT;
        default: return false;
      }
    }

    int setting(int what) {
      if (what == 0) {
        return cold;
      }
      return what == 1 ? page : kept;
    }

    void change(int what, int much) {
      if (what == 0) {
        cold = much;
      } else if (what == 1) {
        page = much;
      } else {
        kept = much;
      }
    }

    void addFunction(int count) {
      if (functions < MOST_FUNCTIONS) {
        members[functions] = 0;
        addArc(NONE, NONE, count);
        functions++;
      }
    }

    /** The new BLOCK's number, or NONE if there is no room for it. */
    int addBlock(int function, int bytes) {
      if (blocks >= MOST_BLOCKS || function < 0 || function >= functions) {
        return NONE;
      }
      int block = blocks;
      owner[block] = function;
      size[block] = bytes;
      called[MOST_CALLS * block] = NONE;
      called[MOST_CALLS * block + 1] = NONE;
      firstArc[block] = arcs;
      members[function]++;
      blocks++;
      return block;
    }

    void addArc(int block, int target, int count) {
      if (arcs < MOST_ARCS) {
        from[arcs] = block;
        to[arcs] = target;
        counts[arcs] = count;
        arcs++;
      }
    }

    /** Lists BLOCKS FUNCTION by FUNCTION; OWN begins so, too. */
    void listBlocks() {
      int n = 0;
      for (int function = 0; function < functions; function++) {
        firstListed[function] = n;
        for (int block = 0; block < blocks; block++) {
          if (owner[block] == function) {
            listed[n] = block;
            n++;
          }
        }
      }
      System.arraycopy(listed, 0, own, 0, MOST_BLOCKS);
    }

    /** A FUNCTION's BLOCK as the FUNCTION has them numbered. */
    int member(int function, int rank) {
      return listed[firstListed[function] + rank];
    }

    int entryOf(int function) {
      return member(function, 0);
    }

    boolean isEntry(int block) {
      return entryOf(owner[block]) == block;
    }

    int bytesOf(int function) {
      int sum = 0;
      for (int rank = 0; rank < members[function]; rank++) {
        sum += size[member(function, rank)];
      }
      return sum;
    }

    int callsOf(int block) {
      int n = 0;
      for (int i = 0; i < MOST_CALLS; i++) {
        if (called[MOST_CALLS * block + i] != NONE) {
          n++;
        }
      }
      return n;
    }

    int arcsOf(int block) {
      return end[block] == EITHER ? 2 : 1;
    }

    /** ARCS of GO and EITHER are just those with a BLOCK at both ends. */
    boolean isInside(int arc) {
      return from[arc] != NONE && to[arc] != NONE;
    }

    int placeInTrace(int function) {
      for (int i = 0; i < traced; i++) {
        if (trace[i] == function) {
          return i;
        }
      }
      return NONE;
    }

    void shift(int was, int place) {
      int block = own[was];
      if (was < place) {
        System.arraycopy(own, was + 1, own, was, place - was);
      } else {
        System.arraycopy(own, place, own, place + 1, was - place);
      }
      own[place] = block;
    }
  }

  /** The latest ACTS: what was told ahead of each of them. */
  private static final class History {
    int acts;
    private int newest;
    private final Program[] kept = new Program[MOST_ACTS];

    History() {
      for (int i = 0; i < MOST_ACTS; i++) {
        kept[i] = new Program();
      }
    }

    void keep(Program program) {
      newest = (newest + 1) % MOST_ACTS;
      kept[newest].copy(program);
      acts = Math.min(acts + 1, MOST_ACTS);
    }

    void bringBack(Program program) {
      program.copy(kept[newest]);
      newest = (newest + MOST_ACTS - 1) % MOST_ACTS;
      acts--;
    }
  }

  /** The text's TOKENS one by one. */
  private static final class Tokens {
    static final int END = 0;
    static final int WORD = 1;
    static final int NUMBER = 2;
    static final int SIGN = 3;
    static final int BAD = 4;

    // A WORD is worth its letters, five bits each: up to six fit in an int, and no longer one is asked for.
    static final int FUN = ('f' & 31) << 10 | ('u' & 31) << 5 | ('n' & 31);
    static final int BLOCK =
        ('b' & 31) << 20 | ('l' & 31) << 15 | ('o' & 31) << 10 | ('c' & 31) << 5 | ('k' & 31);
    static final int CALL = ('c' & 31) << 15 | ('a' & 31) << 10 | ('l' & 31) << 5 | ('l' & 31);
    static final int RET = ('r' & 31) << 10 | ('e' & 31) << 5 | ('t' & 31);
    static final int GOES = ('g' & 31) << 5 | ('o' & 31);
    static final int IF = ('i' & 31) << 5 | ('f' & 31);
    static final int ELSE = ('e' & 31) << 15 | ('l' & 31) << 10 | ('s' & 31) << 5 | ('e' & 31);
    static final int COLD = ('c' & 31) << 15 | ('o' & 31) << 10 | ('l' & 31) << 5 | ('d' & 31);
    static final int PAGE = ('p' & 31) << 15 | ('a' & 31) << 10 | ('g' & 31) << 5 | ('e' & 31);
    static final int KEPT = ('k' & 31) << 15 | ('e' & 31) << 10 | ('p' & 31) << 5 | ('t' & 31);
    static final int TRACE =
        ('t' & 31) << 20 | ('r' & 31) << 15 | ('a' & 31) << 10 | ('c' & 31) << 5 | ('e' & 31);
    static final int LONG_WORD = 0;

    private final byte[] text;
    private int length;
    private int past;
    int kind;
    int start;
    int value;

    Tokens(byte[] text) {
      this.text = text;
    }

    void begin(int n) {
      length = Math.min(n, text.length);
      past = 0;
      next();
    }

    void next() {
      start = past;
      while (start < length && (text[start] == 10 || text[start] == 32)) {
        start++;
      }
      past = start;
      value = 0;
      if (start >= length) {
        kind = END;
      } else if (text[start] >= 'a' && text[start] <= 'z') {
        readWord();
      } else if (text[start] >= '0' && text[start] <= '9') {
        readNumber();
      } else {
        kind = text[start] == ';' ? SIGN : BAD;
        past++;
      }
    }

    private void readWord() {
      while (past < length && text[past] >= 'a' && text[past] <= 'z') {
        value = value << 5 | text[past] & 31;
        past++;
      }
      kind = WORD;
      if (past - start > 6) {
        value = LONG_WORD;
      }
    }

    private void readNumber() {
      while (past < length && text[past] >= '0' && text[past] <= '9') {
        value = value * 10 + text[past] - '0';
        past++;
      }
      kind = past - start > 4 ? BAD : NUMBER;
    }

    boolean isWord(int word) {
      return kind == WORD && value == word;
    }

    boolean isName() {
      if (kind != WORD) {
        return false;
      }
      switch (value) {
        case LONG_WORD: case FUN: case BLOCK: case CALL: case RET: case GOES:
        case IF: case ELSE: case COLD: case PAGE: case KEPT: case TRACE:
          return false;
        default:
          return true;
      }
    }
  }

  /** Reads a text into a draft, up to the first FAULT. */
  private static final class Reader {
    final Program draft = new Program();
    int kind;
    int place;
    private final Tokens tokens;
    private final int[] names = new int[MOST_FUNCTIONS];
    private final boolean[] told = new boolean[3];
    private boolean linesBegan;
    private int number;
    private int holder;

    Reader(byte[] text) {
      tokens = new Tokens(text);
    }

    void read(int n) {
      draft.clear();
      kind = 0;
      linesBegan = false;
      for (int what = 0; what < 3; what++) {
        told[what] = false;
      }
      tokens.begin(n);
      boolean fits = true;
      for (int line = 0; line <= n && fits && tokens.kind != Tokens.END; line++) {
        if (tokens.isWord(Tokens.FUN)) {
          fits = readFunction();
        } else {
          linesBegan = true;
          fits = tokens.isWord(Tokens.BLOCK) ? readBlock() : readOther();
        }
      }
      if (fits) {
        finish(n);
      }
    }

    /** Of one TOKEN the least kind counts, and none is less than that it is no TOKEN. */
    private boolean refuseToken(int why) {
      kind = tokens.kind == Tokens.BAD ? 1 : why;
      place = tokens.start;
      return false;
    }

    private boolean readFunction() {
      if (linesBegan) {
        return refuseToken(2);
      }
      if (draft.functions >= MOST_FUNCTIONS) {
        return refuseToken(6);
      }
      tokens.next();
      if (!passNewName() || !passNumber(0, MOST_COUNT)) {
        return false;
      }
      draft.addFunction(number);
      return passSign();
    }

    private boolean readOther() {
      if (tokens.isWord(Tokens.COLD)) {
        return readSetting(0);
      }
      if (tokens.isWord(Tokens.PAGE)) {
        return readSetting(1);
      }
      if (tokens.isWord(Tokens.KEPT)) {
        return readSetting(2);
      }
      return tokens.isWord(Tokens.TRACE) ? readTrace() : refuseToken(2);
    }

    private boolean readSetting(int what) {
      if (told[what]) {
        return refuseToken(5);
      }
      told[what] = true;
      tokens.next();
      if (tokens.kind != Tokens.NUMBER) {
        return refuseToken(2);
      }
      if (!Program.canBe(what, tokens.value)) {
        return refuseToken(4);
      }
      draft.change(what, tokens.value);
      tokens.next();
      return passSign();
    }

    private boolean readTrace() {
      if (draft.traced > 0) {
        return refuseToken(5);
      }
      tokens.next();
      boolean fits = passTraced();
      // Each FUNCTION fits in once, so a name too many is refused before the bound ends this.
      for (int i = 0; i < MOST_FUNCTIONS && fits && tokens.kind != Tokens.SIGN; i++) {
        fits = passTraced();
      }
      return fits && passSign();
    }

    private boolean passTraced() {
      if (!isHeldName()) {
        return false;
      }
      if (draft.placeInTrace(holder) != NONE || draft.traced >= MOST_FUNCTIONS) {
        return refuseToken(5);
      }
      draft.trace[draft.traced] = holder;
      draft.traced++;
      tokens.next();
      return true;
    }

    private boolean readBlock() {
      if (draft.blocks >= MOST_BLOCKS) {
        return refuseToken(6);
      }
      tokens.next();
      if (!passHeldName()) {
        return false;
      }
      int function = holder;
      if (!passNumber(1, 99)) {
        return false;
      }
      int block = draft.addBlock(function, number);
      return block != NONE && readCalls(block) && readEnd(block) && passSign();
    }

    private boolean readCalls(int block) {
      for (int i = 0; i <= MOST_CALLS && tokens.isWord(Tokens.CALL); i++) {
        if (i == MOST_CALLS) {
          return refuseToken(6);
        }
        tokens.next();
        if (!passHeldName()) {
          return false;
        }
        draft.called[MOST_CALLS * block + i] = holder;
      }
      return true;
    }

    private boolean readEnd(int block) {
      if (tokens.isWord(Tokens.RET)) {
        tokens.next();
        draft.end[block] = RETURN;
        if (!passNumber(0, MOST_COUNT)) {
          return false;
        }
        draft.addArc(block, NONE, number);
        return true;
      }
      if (tokens.isWord(Tokens.GOES)) {
        draft.end[block] = GO;
        return readWay(block);
      }
      if (!tokens.isWord(Tokens.IF)) {
        return refuseToken(2);
      }
      draft.end[block] = EITHER;
      if (!readWay(block)) {
        return false;
      }
      return tokens.isWord(Tokens.ELSE) ? readWay(block) : refuseToken(2);
    }

    /** Behind go, if, else: where to and how often. */
    private boolean readWay(int block) {
      tokens.next();
      if (!passNumber(0, MOST_BLOCKS - 1)) {
        return false;
      }
      int target = number;
      if (!passNumber(0, MOST_COUNT)) {
        return false;
      }
      draft.addArc(block, target, number);
      return true;
    }

    private boolean passNumber(int low, int high) {
      if (tokens.kind != Tokens.NUMBER) {
        return refuseToken(2);
      }
      if (tokens.value < low || tokens.value > high) {
        return refuseToken(4);
      }
      number = tokens.value;
      tokens.next();
      return true;
    }

    private boolean passSign() {
      if (tokens.kind != Tokens.SIGN) {
        return refuseToken(2);
      }
      tokens.next();
      return true;
    }

    private boolean passNewName() {
      if (!tokens.isName()) {
        return refuseToken(2);
      }
      if (seekHolder() != NONE || draft.functions >= MOST_FUNCTIONS) {
        return refuseToken(3);
      }
      names[draft.functions] = tokens.value;
      tokens.next();
      return true;
    }

    private boolean passHeldName() {
      if (!isHeldName()) {
        return false;
      }
      tokens.next();
      return true;
    }

    private boolean isHeldName() {
      if (!tokens.isName()) {
        return refuseToken(2);
      }
      holder = seekHolder();
      return holder != NONE || refuseToken(3);
    }

    private int seekHolder() {
      for (int function = 0; function < draft.functions; function++) {
        if (names[function] == tokens.value) {
          return function;
        }
      }
      return NONE;
    }

    private void finish(int n) {
      place = n;
      for (int function = 0; function < draft.functions; function++) {
        if (draft.members[function] == 0) {
          kind = 7;
          return;
        }
      }
      draft.listBlocks();
      for (int function = 0; function < draft.functions; function++) {
        draft.to[function] = draft.entryOf(function);
      }
      for (int arc = draft.functions; arc < draft.arcs; arc++) {
        aim(arc);
      }
    }

    /** Ways are told as a FUNCTION has its BLOCKS numbered: now that all are known, they get the true numbers. */
    private void aim(int arc) {
      if (!draft.isInside(arc)) {
        return;
      }
      int function = draft.owner[draft.from[arc]];
      if (draft.to[arc] >= draft.members[function]) {
        kind = 8;
      } else {
        draft.to[arc] = draft.member(function, draft.to[arc]);
      }
    }
  }

  /** Counts mended, FUNCTION by FUNCTION, so that all that comes goes. */
  private static final class Flows {
    private static final int OUTSIDE = MOST_BLOCKS;

    final int[] flow = new int[MOST_ARCS];
    final boolean[] taken = new boolean[MOST_ARCS];
    final int[] heat = new int[MOST_BLOCKS];
    private final Program program;
    private final int[] sorted = new int[MOST_ARCS];
    private final boolean[] open = new boolean[MOST_ARCS];
    private final int[] group = new int[MOST_BLOCKS + 1];
    private final int[] unknown = new int[MOST_BLOCKS + 1];
    private final int[] surplus = new int[MOST_BLOCKS + 1];

    Flows(Program program) {
      this.program = program;
    }

    void mend(int function) {
      int n = listArcs(function);
      sortDown(sorted, n, program.counts);
      loosen(function);
      for (int i = 0; i < n; i++) {
        look(function, sorted[i]);
      }
      boolean found = true;
      for (int pass = 0; pass < n && found; pass++) {
        found = solveSome(n);
      }
      for (int i = 0; i < n; i++) {
        int target = program.to[sorted[i]];
        if (target != NONE) {
          heat[target] += flow[sorted[i]];
        }
      }
    }

    private int listArcs(int function) {
      int n = 0;
      sorted[n] = function;
      n++;
      for (int rank = 0; rank < program.members[function]; rank++) {
        int block = program.member(function, rank);
        for (int i = 0; i < program.arcsOf(block) && n < MOST_ARCS; i++) {
          sorted[n] = program.firstArc[block] + i;
          n++;
        }
      }
      return n;
    }

    private void loosen(int function) {
      for (int rank = 0; rank < program.members[function]; rank++) {
        int block = program.member(function, rank);
        heat[block] = 0;
        loosenNode(block);
      }
      loosenNode(OUTSIDE);
    }

    private void loosenNode(int node) {
      group[node] = node;
      unknown[node] = 0;
      surplus[node] = 0;
    }

    private static int nodeOf(int block) {
      return block == NONE ? OUTSIDE : block;
    }

    private void look(int function, int arc) {
      int from = nodeOf(program.from[arc]);
      int to = nodeOf(program.to[arc]);
      boolean joins = group[from] != group[to];
      taken[arc] = joins;
      open[arc] = joins;
      if (joins) {
        unknown[from]++;
        unknown[to]++;
        bind(function, group[to], group[from]);
      } else {
        carry(arc, from, to, program.counts[arc]);
      }
    }

    private void bind(int function, int old, int name) {
      for (int rank = 0; rank < program.members[function]; rank++) {
        int block = program.member(function, rank);
        if (group[block] == old) {
          group[block] = name;
        }
      }
      if (group[OUTSIDE] == old) {
        group[OUTSIDE] = name;
      }
    }

    private void carry(int arc, int from, int to, int much) {
      flow[arc] = much;
      surplus[from] -= much;
      surplus[to] += much;
    }

    /** Taken ARCS are a forest, so there is always a BLOCK with just one that is not known yet. */
    private boolean solveSome(int n) {
      boolean found = false;
      for (int i = 0; i < n; i++) {
        if (open[sorted[i]] && solve(sorted[i])) {
          found = true;
        }
      }
      return found;
    }

    private boolean solve(int arc) {
      int from = nodeOf(program.from[arc]);
      int to = nodeOf(program.to[arc]);
      boolean atTo = to != OUTSIDE && unknown[to] == 1;
      if (!atTo && (from == OUTSIDE || unknown[from] != 1)) {
        return false;
      }
      carry(arc, from, to, atTo ? -surplus[to] : surplus[from]);
      open[arc] = false;
      unknown[from]--;
      unknown[to]--;
      return true;
    }

    /** FLOW as JUMPS and sums have it: below 0 as 0. */
    int worth(int arc) {
      return Math.max(flow[arc], 0);
    }

    int warmth(int block) {
      return Math.max(heat[block], 0);
    }

    /** JUMPS saved if one BLOCK stands right behind another one. */
    int saved(int ahead, int behind) {
      int sum = 0;
      for (int i = 0; i < program.arcsOf(ahead); i++) {
        int arc = program.firstArc[ahead] + i;
        if (program.to[arc] == behind) {
          sum += worth(arc);
        }
      }
      return sum;
    }

    /** JUMPS of a FUNCTION, if nothing falls. */
    int worthOf(int function) {
      int sum = 0;
      for (int arc = program.functions; arc < program.arcs; arc++) {
        if (program.isInside(arc) && program.owner[program.from[arc]] == function) {
          sum += worth(arc);
        }
      }
      return sum;
    }

    /** JUMPS of all, if nothing falls. */
    int allWorth() {
      int sum = 0;
      for (int function = 0; function < program.functions; function++) {
        sum += worthOf(function);
      }
      return sum;
    }

    int broken() {
      int n = 0;
      for (int arc = 0; arc < program.arcs; arc++) {
        if (flow[arc] < 0) {
          n++;
        }
      }
      return n;
    }

    int mending() {
      int sum = 0;
      for (int arc = 0; arc < program.arcs; arc++) {
        sum += Math.abs(flow[arc] - program.counts[arc]);
      }
      return sum;
    }
  }

  /** BLOCKS of each FUNCTION chained, and how its CHAINS stand. */
  private static final class Chains {
    final int[] line = new int[MOST_BLOCKS];
    final int[] number = new int[MOST_BLOCKS];
    final boolean[] cold = new boolean[MOST_BLOCKS];
    final int[] groups = new int[MOST_FUNCTIONS];
    private final Program program;
    private final Flows flows;
    private final int[] sorted = new int[MOST_ARCS];
    private final int[] head = new int[MOST_BLOCKS];
    private final int[] follower = new int[MOST_BLOCKS];
    private final int[] bond = new int[MOST_BLOCKS];
    private final boolean[] stands = new boolean[MOST_BLOCKS];

    Chains(Program program, Flows flows) {
      this.program = program;
      this.flows = flows;
    }

    void join(int function) {
      part(function);
      int n = listArcs(function);
      sortDown(sorted, n, flows.flow);
      for (int i = 0; i < n; i++) {
        link(sorted[i]);
      }
      stand(function, n);
      if (savedBy(line, function) <= savedBy(program.listed, function)) {
        keepNumbers(function);
      }
      markCold(function);
    }

    private void part(int function) {
      for (int rank = 0; rank < program.members[function]; rank++) {
        int block = program.member(function, rank);
        head[block] = block;
        follower[block] = NONE;
        bond[block] = 0;
        stands[block] = false;
      }
    }

    private int listArcs(int function) {
      int n = 0;
      for (int rank = 0; rank < program.members[function]; rank++) {
        int block = program.member(function, rank);
        for (int i = 0; i < program.arcsOf(block) && n < MOST_ARCS; i++) {
          int arc = program.firstArc[block] + i;
          if (program.isInside(arc) && flows.flow[arc] > 0) {
            sorted[n] = arc;
            n++;
          }
        }
      }
      return n;
    }

    private void link(int arc) {
      int ahead = program.from[arc];
      int behind = program.to[arc];
      boolean last = follower[ahead] == NONE;
      boolean firstOfOther = head[behind] == behind && head[ahead] != behind;
      if (!last || !firstOfOther || program.isEntry(behind)) {
        return;
      }
      follower[ahead] = behind;
      int block = behind;
      for (int i = 0; i < MOST_BLOCKS && block != NONE; i++) {
        head[block] = head[ahead];
        block = follower[block];
      }
    }

    private void stand(int function, int n) {
      int filled = 0;
      int chain = program.entryOf(function);
      groups[function] = 0;
      for (int i = 0; i < program.members[function] && chain != NONE; i++) {
        filled = putDown(function, chain, filled);
        bindTo(chain, n);
        chain = strongest(function);
      }
    }

    private int putDown(int function, int chain, int filled) {
      int n = filled;
      int block = chain;
      for (int i = 0; i < MOST_BLOCKS && block != NONE && n < program.members[function]; i++) {
        line[program.firstListed[function] + n] = block;
        number[block] = groups[function];
        stands[block] = true;
        n++;
        block = follower[block];
      }
      groups[function]++;
      return n;
    }

    /** Adds what joins the CHAIN that just came to those that do not stand yet. */
    private void bindTo(int chain, int n) {
      for (int i = 0; i < n; i++) {
        int ahead = program.from[sorted[i]];
        int behind = program.to[sorted[i]];
        if (head[ahead] == chain && !stands[behind]) {
          bond[head[behind]] += flows.flow[sorted[i]];
        } else if (head[behind] == chain && !stands[ahead]) {
          bond[head[ahead]] += flows.flow[sorted[i]];
        }
      }
    }

    /** BLOCKS go by here by numbers, so of like CHAINS that with the least BLOCK is found first. */
    private int strongest(int function) {
      int found = NONE;
      for (int rank = 0; rank < program.members[function]; rank++) {
        int block = program.member(function, rank);
        if (!stands[block] && (found == NONE || bond[head[block]] > bond[found])) {
          found = head[block];
        }
      }
      return found;
    }

    private int savedBy(int[] blocks, int function) {
      int first = program.firstListed[function];
      int sum = 0;
      for (int i = 1; i < program.members[function]; i++) {
        sum += flows.saved(blocks[first + i - 1], blocks[first + i]);
      }
      return sum;
    }

    private void keepNumbers(int function) {
      for (int rank = 0; rank < program.members[function]; rank++) {
        int block = program.member(function, rank);
        line[program.firstListed[function] + rank] = block;
        number[block] = 0;
      }
      groups[function] = 1;
    }

    /** The first CHAIN has the ENTRY, so it is never COLD. */
    private void markCold(int function) {
      int members = program.members[function];
      for (int rank = 0; rank < members; rank++) {
        int block = program.member(function, rank);
        cold[block] = number[block] > 0;
      }
      for (int rank = 0; rank < members; rank++) {
        int block = program.member(function, rank);
        if (flows.heat[block] > program.cold) {
          warm(function, number[block]);
        }
      }
    }

    private void warm(int function, int chain) {
      for (int rank = 0; rank < program.members[function]; rank++) {
        int block = program.member(function, rank);
        if (number[block] == chain) {
          cold[block] = false;
        }
      }
    }
  }

  /** FUNCTIONS clustered by who calls them. */
  private static final class Clusters {
    final int[] line = new int[MOST_FUNCTIONS];
    final int[] startLine = new int[MOST_FUNCTIONS];
    final int[] spot = new int[MOST_FUNCTIONS];
    final int[] caller = new int[MOST_FUNCTIONS];
    int groups;
    private final Program program;
    private final Flows flows;
    private final int[] sorted = new int[MOST_FUNCTIONS];
    private final int[] head = new int[MOST_FUNCTIONS];
    private final int[] follower = new int[MOST_FUNCTIONS];
    // Of a CLUSTER, by the FUNCTION it begins with.
    private final int[] heat = new int[MOST_FUNCTIONS];
    private final int[] bytes = new int[MOST_FUNCTIONS];
    private final int[] density = new int[MOST_FUNCTIONS];

    Clusters(Program program, Flows flows) {
      this.program = program;
      this.flows = flows;
    }

    void gather() {
      for (int function = 0; function < program.functions; function++) {
        sorted[function] = function;
        head[function] = function;
        follower[function] = NONE;
        heat[function] = flows.heat[program.entryOf(function)];
        bytes[function] = program.bytesOf(function);
        caller[function] = seekCaller(function);
      }
      sortDown(sorted, program.functions, heat);
      for (int i = 0; i < program.functions; i++) {
        joinCaller(sorted[i]);
      }
      standByDensity();
      standByTrace();
    }

    /** WEIGHT of a FUNCTION to another one. */
    int pull(int function, int other) {
      int sum = 0;
      for (int rank = 0; rank < program.members[function]; rank++) {
        int block = program.member(function, rank);
        for (int i = 0; i < MOST_CALLS; i++) {
          if (program.called[MOST_CALLS * block + i] == other) {
            sum += flows.warmth(block);
          }
        }
      }
      return sum;
    }

    private int seekCaller(int function) {
      int found = NONE;
      int most = 0;
      for (int other = 0; other < program.functions; other++) {
        int much = other == function ? 0 : pull(other, function);
        if (much > most) {
          most = much;
          found = other;
        }
      }
      return found;
    }

    private void joinCaller(int function) {
      int by = caller[function];
      if (by == NONE || head[by] == head[function]) {
        return;
      }
      int front = head[by];
      int back = head[function];
      if (bytes[front] + bytes[back] > program.page) {
        return;
      }
      follower[lastOf(front)] = back;
      heat[front] += heat[back];
      bytes[front] += bytes[back];
      for (int other = 0; other < program.functions; other++) {
        if (head[other] == back) {
          head[other] = front;
        }
      }
    }

    private int lastOf(int cluster) {
      int function = cluster;
      for (int i = 0; i < MOST_FUNCTIONS && follower[function] != NONE; i++) {
        function = follower[function];
      }
      return function;
    }

    private void standByDensity() {
      groups = 0;
      for (int function = 0; function < program.functions; function++) {
        int cluster = head[function];
        if (!isListed(cluster)) {
          sorted[groups] = cluster;
          density[cluster] = bytes[cluster] == 0 ? 0 : (int) (heat[cluster] * 1000L / bytes[cluster]);
          groups++;
        }
      }
      sortDown(sorted, groups, density);
      int n = 0;
      for (int i = 0; i < groups; i++) {
        int function = sorted[i];
        for (int j = 0; j < MOST_FUNCTIONS && function != NONE && n < MOST_FUNCTIONS; j++) {
          line[n] = function;
          spot[function] = n;
          n++;
          function = follower[function];
        }
      }
    }

    private boolean isListed(int cluster) {
      for (int i = 0; i < groups; i++) {
        if (sorted[i] == cluster) {
          return true;
        }
      }
      return false;
    }

    private void standByTrace() {
      int n = 0;
      for (int i = 0; i < program.traced; i++) {
        startLine[n] = program.trace[i];
        n++;
      }
      for (int i = 0; i < program.functions && n < MOST_FUNCTIONS; i++) {
        if (program.placeInTrace(line[i]) == NONE) {
          startLine[n] = line[i];
          n++;
        }
      }
    }
  }

  /** A few pages, each once. */
  private static final class Pages {
    int size;
    private final boolean[] has = new boolean[MOST_PAGES];

    void clear() {
      size = 0;
      for (int page = 0; page < MOST_PAGES; page++) {
        has[page] = false;
      }
    }

    void add(int page) {
      if (page >= 0 && page < MOST_PAGES && !has[page]) {
        has[page] = true;
        size++;
      }
    }
  }

  /** An ORDER: where each BLOCK stands, and what that costs. */
  private static final class Layout {
    final int[] line = new int[MOST_BLOCKS];
    final int[] spot = new int[MOST_BLOCKS];
    final int[] bytes = new int[MOST_BLOCKS];
    final int[] address = new int[MOST_BLOCKS];
    int total;
    private final Program program;
    private final Flows flows;

    Layout(Program program, Flows flows) {
      this.program = program;
      this.flows = flows;
    }

    void byLine(int[] blocks) {
      System.arraycopy(blocks, 0, line, 0, MOST_BLOCKS);
      measure();
    }

    void byFunctions(int[] functions, Chains chains) {
      int n = 0;
      for (int i = 0; i < program.functions; i++) {
        n = append(functions[i], chains, false, n);
      }
      for (int i = 0; i < program.functions; i++) {
        n = append(functions[i], chains, true, n);
      }
      measure();
    }

    private int append(int function, Chains chains, boolean cold, int filled) {
      int n = filled;
      for (int i = 0; i < program.members[function] && n < MOST_BLOCKS; i++) {
        int block = chains.line[program.firstListed[function] + i];
        if (chains.cold[block] == cold) {
          line[n] = block;
          n++;
        }
      }
      return n;
    }

    private void measure() {
      for (int i = 0; i < program.blocks; i++) {
        spot[line[i]] = i;
      }
      total = 0;
      for (int i = 0; i < program.blocks; i++) {
        int block = line[i];
        address[block] = total;
        bytes[block] = program.size[block] + (needsJump(block) ? JUMP_BYTES : 0);
        total += bytes[block];
      }
    }

    private boolean needsJump(int block) {
      if (program.end[block] == RETURN) {
        return false;
      }
      for (int i = 0; i < program.arcsOf(block); i++) {
        if (isFall(program.firstArc[block] + i)) {
          return false;
        }
      }
      return true;
    }

    boolean isFall(int arc) {
      return program.isInside(arc) && spot[program.to[arc]] == spot[program.from[arc]] + 1;
    }

    boolean isLine(int[] blocks) {
      for (int i = 0; i < program.blocks; i++) {
        if (line[i] != blocks[i]) {
          return false;
        }
      }
      return true;
    }

    private int jumpsBy(int arc) {
      return program.isInside(arc) && !isFall(arc) ? flows.worth(arc) : 0;
    }

    int jumpsOf(int function) {
      int sum = 0;
      for (int rank = 0; rank < program.members[function]; rank++) {
        int block = program.member(function, rank);
        for (int i = 0; i < program.arcsOf(block); i++) {
          sum += jumpsBy(program.firstArc[block] + i);
        }
      }
      return sum;
    }

    int allJumps() {
      int sum = 0;
      for (int arc = 0; arc < program.arcs; arc++) {
        sum += jumpsBy(arc);
      }
      return sum;
    }

    int fallCount() {
      int n = 0;
      for (int arc = 0; arc < program.arcs; arc++) {
        if (isFall(arc)) {
          n++;
        }
      }
      return n;
    }

    int turned() {
      int n = 0;
      for (int block = 0; block < program.blocks; block++) {
        if (program.end[block] == EITHER && isFall(program.firstArc[block])) {
          n++;
        }
      }
      return n;
    }

    private int pageAt(int at) {
      return program.page <= 0 ? 0 : at / program.page;
    }

    int firstPage(int block) {
      return pageAt(address[block]);
    }

    int lastPage(int block) {
      return pageAt(address[block] + bytes[block] - 1);
    }

    int pageCount() {
      return total == 0 ? 0 : pageAt(total - 1) + 1;
    }

    int touched(Pages pages) {
      pages.clear();
      for (int block = 0; block < program.blocks; block++) {
        boolean traced = program.placeInTrace(program.owner[block]) != NONE;
        if (traced && (flows.heat[block] > program.cold || program.isEntry(block))) {
          touch(block, pages);
        }
      }
      return pages.size;
    }

    private void touch(int block, Pages pages) {
      for (int page = firstPage(block); page <= lastPage(block); page++) {
        pages.add(page);
      }
    }
  }

  /** A RUN by draws over pages of which the latest used are kept. */
  private static final class Walk {
    private static final int MOST_DEEP = 8;

    int steps;
    int misses;
    int leaps;
    private final Program program;
    private final Flows flows;
    private final int[] kept = new int[MOST_KEPT];
    private int keptSize;
    private final int[] at = new int[MOST_DEEP];
    private final int[] callsMade = new int[MOST_DEEP];
    private int deep;
    private int drawn;

    Walk(Program program, Flows flows) {
      this.program = program;
      this.flows = flows;
    }

    void follow(Layout layout, Pages pages, int function, int most, int seed) {
      misses = 0;
      leaps = 0;
      keptSize = 0;
      drawn = seed;
      deep = 0;
      enter(program.entryOf(function));
      for (steps = 0; steps < most && deep >= 0; steps++) {
        use(layout, pages, at[deep]);
        goOn(layout);
      }
    }

    private void enter(int block) {
      at[deep] = block;
      callsMade[deep] = 0;
    }

    private void use(Layout layout, Pages pages, int block) {
      for (int page = layout.firstPage(block); page <= layout.lastPage(block); page++) {
        pages.add(page);
        fetch(page);
      }
    }

    /** The latest used page stands first, so that the last is the one to go. */
    private void fetch(int page) {
      int i = 0;
      while (i < keptSize && kept[i] != page) {
        i++;
      }
      if (i == keptSize) {
        misses++;
        keptSize = Math.min(keptSize + 1, program.kept);
      }
      for (int j = Math.min(i, keptSize - 1); j > 0; j--) {
        kept[j] = kept[j - 1];
      }
      kept[0] = page;
    }

    /** Up to the next BLOCK's start: calls, ends, and what comes behind a RETURN. */
    private void goOn(Layout layout) {
      boolean standing = false;
      // Each turn makes or skips a call or ends a function: there are at most three a function.
      for (int turn = 0; turn < 4 * MOST_DEEP && !standing && deep >= 0; turn++) {
        int block = at[deep];
        if (callsMade[deep] < program.callsOf(block)) {
          standing = makeCall(block);
        } else if (program.end[block] == RETURN) {
          deep--;
        } else {
          leave(layout, block);
          standing = true;
        }
      }
    }

    private boolean makeCall(int block) {
      int function = program.called[MOST_CALLS * block + callsMade[deep]];
      callsMade[deep]++;
      if (deep + 1 >= MOST_DEEP || function == NONE) {
        return false;
      }
      deep++;
      enter(program.entryOf(function));
      return true;
    }

    private void leave(Layout layout, int block) {
      int arc = program.firstArc[block];
      if (program.end[block] == EITHER && !isFirst(arc)) {
        arc++;
      }
      if (!layout.isFall(arc)) {
        leaps++;
      }
      enter(program.to[arc]);
    }

    private boolean isFirst(int arc) {
      int first = flows.worth(arc);
      int both = first + flows.worth(arc + 1);
      if (both <= 0) {
        return true;
      }
      drawn = (drawn * 75 + 74) % 65537;
      return drawn % both < first;
    }
  }

  /** What is worked out on paper: moves of OWN that are not made, the least JUMPS there are. */
  private static final class Paper {
    int bestBlock;
    int bestPlace;
    int bestJumps;
    private final Program program;
    private final Flows flows;
    private final int[] others = new int[MOST_BLOCKS];
    private int otherCount;
    private int otherJumps;
    private final int[] reach = new int[MOST_TRIED << MOST_TRIED];

    Paper(Program program, Flows flows) {
      this.program = program;
      this.flows = flows;
    }

    /** OWN without a BLOCK, and the JUMPS if it were put nowhere. */
    void leaveOut(int block) {
      otherCount = 0;
      otherJumps = flows.allWorth();
      for (int i = 0; i < program.blocks; i++) {
        if (program.own[i] != block) {
          others[otherCount] = program.own[i];
          otherCount++;
        }
      }
      for (int i = 1; i < otherCount; i++) {
        otherJumps -= flows.saved(others[i - 1], others[i]);
      }
    }

    /** JUMPS if the BLOCK left out went to a place. */
    int jumpsAt(int block, int place) {
      int sum = otherJumps;
      boolean hasAhead = place > 0 && place <= otherCount;
      boolean hasBehind = place >= 0 && place < otherCount;
      if (hasAhead) {
        sum -= flows.saved(others[place - 1], block);
      }
      if (hasBehind) {
        sum -= flows.saved(block, others[place]);
      }
      if (hasAhead && hasBehind) {
        sum += flows.saved(others[place - 1], others[place]);
      }
      return sum;
    }

    void seekBest(int now) {
      bestBlock = NONE;
      bestPlace = NONE;
      bestJumps = now;
      for (int block = 0; block < program.blocks; block++) {
        leaveOut(block);
        for (int place = 0; place < program.blocks; place++) {
          int then = jumpsAt(block, place);
          if (then < bestJumps) {
            bestBlock = block;
            bestPlace = place;
            bestJumps = then;
          }
        }
      }
    }

    /** By sets of BLOCKS that stand already and which of them is last: the most JUMPS that can be saved. */
    int leastJumps(int function) {
      int members = Math.min(program.members[function], MOST_TRIED);
      int sets = 1 << members;
      for (int i = 0; i < MOST_TRIED * sets; i++) {
        reach[i] = NONE;
      }
      reach[MOST_TRIED] = 0;
      int most = 0;
      for (int set = 1; set < sets; set++) {
        for (int last = 0; last < members; last++) {
          int saved = reach[MOST_TRIED * set + last];
          if (saved != NONE) {
            most = Math.max(most, saved);
            extend(function, set, last, members);
          }
        }
      }
      return flows.worthOf(function) - most;
    }

    private void extend(int function, int set, int last, int members) {
      int saved = reach[MOST_TRIED * set + last];
      for (int next = 0; next < members; next++) {
        int more = set | 1 << next;
        if (more != set) {
          int all = saved + flows.saved(program.member(function, last), program.member(function, next));
          int i = MOST_TRIED * more + next;
          reach[i] = Math.max(reach[i], all);
        }
      }
    }
  }
}
