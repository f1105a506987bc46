import java.util.ArrayList;
import java.util.Arrays;
import java.util.Collections;
import java.util.Comparator;
import java.util.HashSet;
import java.util.LinkedList;
import java.util.List;
import java.util.Set;
import java.util.TreeSet;

/**
 * The document once more, as literally and as unlike the class as can be, with lists and recursion:
 * what both answer alike is hardly a slip of the pen.
 */
final class Model {
  private static final int NONE = -1;
  private static final int OUTSIDE = -1;
  private static final List<String> KEYWORDS =
      Arrays.asList("fun", "block", "call", "ret", "go", "if", "else", "cold", "page", "kept", "trace");

  private static final class Fault extends Exception {
    private static final long serialVersionUID = 1;
    final int kind;
    final int place;

    Fault(int kind, int place) {
      this.kind = kind;
      this.place = place;
    }
  }

  private static final class Stop extends RuntimeException {
    private static final long serialVersionUID = 1;
  }

  private static final class Arc {
    int function;
    int from;
    int to;
    int count;
    int flow;
    boolean taken;

    boolean inside() {
      return from != OUTSIDE && to != OUTSIDE;
    }

    int worth() {
      return flow < 0 ? 0 : flow;
    }
  }

  private static final class Block {
    int function;
    int size;
    int end;
    List<Integer> calls = new ArrayList<>();
    List<Integer> arcs = new ArrayList<>();
  }

  /** What undo() brings back. */
  private static final class State {
    int functions;
    int cold = 0;
    int page = 64;
    int kept = 4;
    List<Integer> trace = new ArrayList<>();
    List<Block> blocks = new ArrayList<>();
    List<Arc> arcs = new ArrayList<>();
    List<Integer> own = new ArrayList<>();

    State copy() {
      State s = new State();
      s.functions = functions;
      s.cold = cold;
      s.page = page;
      s.kept = kept;
      s.trace = new ArrayList<>(trace);
      s.blocks = blocks;
      for (Arc a : arcs) {
        Arc b = new Arc();
        b.function = a.function;
        b.from = a.from;
        b.to = a.to;
        b.count = a.count;
        s.arcs.add(b);
      }
      s.own = new ArrayList<>(own);
      return s;
    }
  }

  private final List<Byte> tape = new ArrayList<>();
  private int status;
  private int faultKind = NONE;
  private int faultPlace = NONE;
  private State s = new State();
  private final LinkedList<State> undos = new LinkedList<>();

  // ---- the text

  private static final class Token {
    final String text;
    final int place;

    Token(String text, int place) {
      this.text = text;
      this.place = place;
    }

    boolean bad() {
      return !text.isEmpty() && !text.matches("[a-z]+|[0-9]{1,4}|;");
    }

    boolean name() {
      return text.matches("[a-z]{1,6}") && !KEYWORDS.contains(text);
    }

    boolean number() {
      return text.matches("[0-9]{1,4}");
    }
  }

  private static List<Token> tokens(String text) {
    List<Token> all = new ArrayList<>();
    java.util.regex.Matcher m =
        java.util.regex.Pattern.compile("[a-z]+|[0-9]+|[^a-z0-9 \\n]", java.util.regex.Pattern.DOTALL).matcher(text);
    while (m.find()) {
      all.add(new Token(m.group(), m.start()));
    }
    all.add(new Token("", text.length()));
    return all;
  }

  private List<Token> list;
  private int at;

  private Token pull(boolean fits) throws Fault {
    Token t = list.get(at);
    if (t.bad()) {
      throw new Fault(1, t.place);
    }
    if (!fits) {
      throw new Fault(2, t.place);
    }
    at++;
    return t;
  }

  private Token pullWord(String word) throws Fault {
    return pull(list.get(at).text.equals(word));
  }

  private int pullNumber(int low, int high) throws Fault {
    Token t = pull(list.get(at).number());
    int n = Integer.parseInt(t.text);
    if (n < low || n > high) {
      throw new Fault(4, t.place);
    }
    return n;
  }

  private int pullFunction(List<String> names) throws Fault {
    Token t = pull(list.get(at).name());
    if (!names.contains(t.text)) {
      throw new Fault(3, t.place);
    }
    return names.indexOf(t.text);
  }

  private State parse(String text) throws Fault {
    State p = new State();
    List<String> names = new ArrayList<>();
    List<String> told = new ArrayList<>();
    list = tokens(text);
    at = 0;
    while (list.get(at).text.equals("fun")) {
      Token t = pull(true);
      if (names.size() == 8) {
        throw new Fault(6, t.place);
      }
      Token n = pull(list.get(at).name());
      if (names.contains(n.text)) {
        throw new Fault(3, n.place);
      }
      names.add(n.text);
      Arc a = new Arc();
      a.function = names.size() - 1;
      a.from = OUTSIDE;
      a.count = pullNumber(0, 9999);
      p.arcs.add(a);
      pullWord(";");
    }
    p.functions = names.size();
    while (!list.get(at).text.isEmpty()) {
      line(p, names, told);
    }
    finish(p, text.length());
    return p;
  }

  private void line(State p, List<String> names, List<String> told) throws Fault {
    Token t = pull(Arrays.asList("block", "cold", "page", "kept", "trace").contains(list.get(at).text));
    if (t.text.equals("block")) {
      blockLine(p, names, t);
      return;
    }
    if (told.contains(t.text)) {
      throw new Fault(5, t.place);
    }
    told.add(t.text);
    if (t.text.equals("cold")) {
      p.cold = pullNumber(0, 9999);
    } else if (t.text.equals("page")) {
      p.page = pullNumber(16, 512);
    } else if (t.text.equals("kept")) {
      p.kept = pullNumber(1, 16);
    } else {
      do {
        Token n = list.get(at);
        int f = pullFunction(names);
        if (p.trace.contains(f)) {
          throw new Fault(5, n.place);
        }
        p.trace.add(f);
      } while (!list.get(at).text.equals(";"));
    }
    pullWord(";");
  }

  private void blockLine(State p, List<String> names, Token first) throws Fault {
    if (p.blocks.size() == 40) {
      throw new Fault(6, first.place);
    }
    Block b = new Block();
    b.function = pullFunction(names);
    b.size = pullNumber(1, 99);
    p.blocks.add(b);
    while (list.get(at).text.equals("call")) {
      Token c = pull(true);
      if (b.calls.size() == 2) {
        throw new Fault(6, c.place);
      }
      b.calls.add(pullFunction(names));
    }
    Token e = pull(Arrays.asList("ret", "go", "if").contains(list.get(at).text));
    b.end = Arrays.asList("ret", "go", "if").indexOf(e.text);
    way(p, b, b.end != 0);
    if (b.end == 2) {
      pullWord("else");
      way(p, b, true);
    }
    pullWord(";");
  }

  private void way(State p, Block b, boolean inside) throws Fault {
    Arc a = new Arc();
    a.function = b.function;
    a.from = p.blocks.size() - 1;
    a.to = inside ? pullNumber(0, 39) : OUTSIDE;
    a.count = pullNumber(0, 9999);
    b.arcs.add(p.arcs.size());
    p.arcs.add(a);
  }

  private static void finish(State p, int length) throws Fault {
    for (int f = 0; f < p.functions; f++) {
      if (blocksOf(p, f).isEmpty()) {
        throw new Fault(7, length);
      }
    }
    for (Arc a : p.arcs) {
      List<Integer> mine = blocksOf(p, a.function);
      if (a.from == OUTSIDE) {
        a.to = mine.get(0);
      } else if (a.to != OUTSIDE) {
        if (a.to >= mine.size()) {
          throw new Fault(8, length);
        }
        a.to = mine.get(a.to);
      }
    }
    for (int f = 0; f < p.functions; f++) {
      p.own.addAll(blocksOf(p, f));
    }
  }

  private static List<Integer> blocksOf(State p, int f) {
    List<Integer> mine = new ArrayList<>();
    for (int b = 0; b < p.blocks.size(); b++) {
      if (p.blocks.get(b).function == f) {
        mine.add(b);
      }
    }
    return mine;
  }

  private List<Integer> mine(int f) {
    return blocksOf(s, f);
  }

  private int entry(int f) {
    return mine(f).get(0);
  }

  // ---- FLOW

  private void mend() {
    for (int f = 0; f < s.functions; f++) {
      mend(f);
    }
  }

  private void mend(int f) {
    List<Arc> arcs = new ArrayList<>();
    for (Arc a : s.arcs) {
      if (a.function == f) {
        a.taken = false;
        a.flow = a.count;
        arcs.add(a);
      }
    }
    List<Arc> sorted = new ArrayList<>(arcs);
    sorted.sort(Comparator.comparingInt((Arc a) -> -a.count));
    List<Arc> tree = new ArrayList<>();
    for (Arc a : sorted) {
      if (!reach(tree, a.from).contains(a.to)) {
        a.taken = true;
        tree.add(a);
      }
    }
    for (Arc a : tree) {
      List<Arc> rest = new ArrayList<>(tree);
      rest.remove(a);
      Set<Integer> side = reach(rest, a.to);
      boolean into = !side.contains(OUTSIDE);
      if (!into) {
        side = reach(rest, a.from);
      }
      int more = 0;
      for (Arc b : arcs) {
        if (!b.taken) {
          more += (side.contains(b.to) ? b.count : 0) - (side.contains(b.from) ? b.count : 0);
        }
      }
      a.flow = into ? -more : more;
    }
  }

  private static Set<Integer> reach(List<Arc> arcs, int from) {
    Set<Integer> all = new HashSet<>();
    all.add(from);
    boolean grew = true;
    while (grew) {
      grew = false;
      for (Arc a : arcs) {
        if (all.contains(a.from) != all.contains(a.to)) {
          all.add(a.from);
          all.add(a.to);
          grew = true;
        }
      }
    }
    return all;
  }

  private int heat(int block) {
    int sum = 0;
    for (Arc a : s.arcs) {
      if (a.to == block) {
        sum += a.flow;
      }
    }
    return sum;
  }

  // ---- CHAINS

  private int jumpsAlone(int f, List<Integer> line) {
    int sum = 0;
    for (Arc a : s.arcs) {
      if (a.function == f && a.inside() && line.indexOf(a.to) != line.indexOf(a.from) + 1) {
        sum += a.worth();
      }
    }
    return sum;
  }

  private static List<Integer> flat(List<List<Integer>> lists) {
    List<Integer> all = new ArrayList<>();
    for (List<Integer> l : lists) {
      all.addAll(l);
    }
    return all;
  }

  private static List<Integer> holding(List<List<Integer>> lists, int x) {
    for (List<Integer> l : lists) {
      if (l.contains(x)) {
        return l;
      }
    }
    throw new IllegalStateException();
  }

  private List<List<Integer>> chains(int f) {
    List<List<Integer>> chains = new ArrayList<>();
    for (int b : mine(f)) {
      chains.add(new ArrayList<>(Collections.singletonList(b)));
    }
    List<Arc> sorted = new ArrayList<>();
    for (Arc a : s.arcs) {
      if (a.function == f && a.inside() && a.flow > 0) {
        sorted.add(a);
      }
    }
    sorted.sort(Comparator.comparingInt((Arc a) -> -a.flow));
    for (Arc a : sorted) {
      List<Integer> one = holding(chains, a.from);
      List<Integer> two = holding(chains, a.to);
      if (one != two && one.get(one.size() - 1) == a.from && two.get(0) == a.to && a.to != entry(f)) {
        one.addAll(two);
        chains.removeIf(l -> l == two);
      }
    }
    List<List<Integer>> standing = new ArrayList<>();
    List<Integer> next = holding(chains, entry(f));
    while (next != null) {
      standing.add(next);
      List<Integer> gone = next;
      chains.removeIf(l -> l == gone);
      next = null;
      for (List<Integer> l : chains) {
        if (next == null || bond(l, standing) > bond(next, standing)
            || bond(l, standing) == bond(next, standing) && Collections.min(l) < Collections.min(next)) {
          next = l;
        }
      }
    }
    if (jumpsAlone(f, flat(standing)) >= jumpsAlone(f, mine(f))) {
      return new ArrayList<>(Collections.singletonList(mine(f)));
    }
    return standing;
  }

  private int bond(List<Integer> chain, List<List<Integer>> standing) {
    List<Integer> all = flat(standing);
    int sum = 0;
    for (Arc a : s.arcs) {
      if (chain.contains(a.from) && all.contains(a.to) || chain.contains(a.to) && all.contains(a.from)) {
        sum += a.worth();
      }
    }
    return sum;
  }

  private boolean cold(int f, List<Integer> chain) {
    for (int b : chain) {
      if (heat(b) > s.cold || b == entry(f)) {
        return false;
      }
    }
    return true;
  }

  // ---- CLUSTERS

  private int pull(int f, int other) {
    int sum = 0;
    for (int b : mine(f)) {
      for (int c : s.blocks.get(b).calls) {
        if (c == other) {
          sum += Math.max(0, heat(b));
        }
      }
    }
    return sum;
  }

  private int caller(int f) {
    int best = NONE;
    for (int other = s.functions - 1; other >= 0; other--) {
      int w = pull(other, f);
      if (other != f && w > 0 && (best == NONE || w >= pull(best, f))) {
        best = other;
      }
    }
    return best;
  }

  private int bytesOf(List<Integer> functions) {
    int sum = 0;
    for (int f : functions) {
      for (int b : mine(f)) {
        sum += s.blocks.get(b).size;
      }
    }
    return sum;
  }

  private List<List<Integer>> clusters() {
    List<List<Integer>> clusters = new ArrayList<>();
    List<Integer> byHeat = new ArrayList<>();
    for (int f = 0; f < s.functions; f++) {
      clusters.add(new ArrayList<>(Collections.singletonList(f)));
      byHeat.add(f);
    }
    byHeat.sort(Comparator.comparingInt((Integer f) -> -heat(entry(f))));
    for (int f : byHeat) {
      int c = caller(f);
      if (c == NONE) {
        continue;
      }
      List<Integer> one = holding(clusters, c);
      List<Integer> two = holding(clusters, f);
      if (one != two && bytesOf(one) + bytesOf(two) <= s.page) {
        one.addAll(two);
        clusters.removeIf(l -> l == two);
      }
    }
    clusters.sort(Comparator.comparingInt((List<Integer> l) -> Collections.min(l)));
    clusters.sort(Comparator.comparingLong((List<Integer> l) -> -density(l)));
    return clusters;
  }

  private long density(List<Integer> cluster) {
    long heat = 0;
    for (int f : cluster) {
      heat += heat(entry(f));
    }
    return heat * 1000 / bytesOf(cluster);
  }

  // ---- ORDERS

  private List<Integer> line(int how) {
    List<Integer> functions = new ArrayList<>();
    if (how == 4) {
      return s.own;
    }
    if (how == 3) {
      functions.addAll(s.trace);
    }
    List<Integer> rest = new ArrayList<>();
    if (how >= 2) {
      rest = flat(clusters());
    } else {
      for (int f = 0; f < s.functions; f++) {
        rest.add(f);
      }
    }
    rest.removeAll(functions);
    functions.addAll(rest);
    List<Integer> front = new ArrayList<>();
    List<Integer> back = new ArrayList<>();
    for (int f : functions) {
      if (how == 0) {
        front.addAll(mine(f));
        continue;
      }
      for (List<Integer> chain : chains(f)) {
        (cold(f, chain) ? back : front).addAll(chain);
      }
    }
    front.addAll(back);
    return front;
  }

  private boolean falls(List<Integer> line, Arc a) {
    return a.inside() && line.indexOf(a.to) == line.indexOf(a.from) + 1;
  }

  private int jumpsIn(List<Integer> line, int f) {
    int sum = 0;
    for (Arc a : s.arcs) {
      if (a.inside() && (f == NONE || a.function == f) && !falls(line, a)) {
        sum += a.worth();
      }
    }
    return sum;
  }

  private int bytes(List<Integer> line, int block) {
    Block b = s.blocks.get(block);
    boolean any = b.end == 0;
    for (int a : b.arcs) {
      any |= falls(line, s.arcs.get(a));
    }
    return any ? b.size : b.size + 2;
  }

  private int address(List<Integer> line, int block) {
    int sum = 0;
    for (int b : line) {
      if (b == block) {
        break;
      }
      sum += bytes(line, b);
    }
    return sum;
  }

  private List<Integer> pages(List<Integer> line, int block) {
    List<Integer> all = new ArrayList<>();
    int first = address(line, block) / s.page;
    int last = (address(line, block) + bytes(line, block) - 1) / s.page;
    for (int p = first; p <= last; p++) {
      all.add(p);
    }
    return all;
  }

  // ---- the face

  private int refuse(int why) {
    status = why;
    return NONE;
  }

  private int answer(int value) {
    status = 0;
    return value;
  }

  private boolean f(int f) {
    return f >= 0 && f < s.functions;
  }

  private boolean b(int b) {
    return b >= 0 && b < s.blocks.size();
  }

  private boolean a(int a) {
    return a >= 0 && a < s.arcs.size();
  }

  private static boolean in(int x, int low, int high) {
    return x >= low && x <= high;
  }

  private void act() {
    undos.addLast(s.copy());
    if (undos.size() > 6) {
      undos.removeFirst();
    }
  }

  int status() {
    return status;
  }

  int feed(int a, int b, int c, int d, int e) {
    if (tape.size() + 20 > 900) {
      return NONE;
    }
    for (int x : new int[] {a, b, c, d, e}) {
      for (int i = 3; i >= 0; i--) {
        tape.add((byte) (x >>> 8 * i));
      }
    }
    return tape.size();
  }

  int load(int n) {
    if (!in(n, 0, tape.size())) {
      return refuse(1);
    }
    StringBuilder text = new StringBuilder();
    for (byte x : tape.subList(0, n)) {
      text.append((char) (x & 255));
    }
    tape.clear();
    try {
      State p = parse(text.toString());
      act();
      s = p;
      mend();
      faultKind = 0;
      faultPlace = NONE;
      return answer(s.blocks.size());
    } catch (Fault fault) {
      faultKind = fault.kind;
      faultPlace = fault.place;
      return refuse(9);
    }
  }

  int fault(int what) {
    return what == 0 ? faultKind : what == 1 ? faultPlace : NONE;
  }

  int many(int what) {
    if (!in(what, 0, 10)) {
      return refuse(1);
    }
    int broken = 0;
    int mending = 0;
    for (Arc a : s.arcs) {
      broken += a.flow < 0 ? 1 : 0;
      mending += Math.abs(a.flow - a.count);
    }
    int[] all = {s.functions, s.blocks.size(), s.arcs.size(), s.cold, s.page, s.kept, s.trace.size(), broken, mending,
      clusters().size(), undos.size()};
    return answer(all[what]);
  }

  int function(int f, int what) {
    if (!in(what, 0, 7)) {
      return refuse(1);
    }
    if (!f(f)) {
      return refuse(2);
    }
    int[] all = {mine(f).size(), entry(f), bytesOf(Collections.singletonList(f)), heat(entry(f)), chains(f).size(),
      flat(clusters()).indexOf(f), caller(f), s.trace.indexOf(f)};
    return answer(all[what]);
  }

  int block(int block, int what) {
    if (!in(what, 0, 9)) {
      return refuse(1);
    }
    if (!b(block)) {
      return refuse(2);
    }
    Block b = s.blocks.get(block);
    List<List<Integer>> chains = chains(b.function);
    List<Integer> chain = holding(chains, block);
    int number = 0;
    while (chains.get(number) != chain) {
      number++;
    }
    int n = b.calls.size();
    int[] all = {b.function, b.size, b.end, b.arcs.get(0), heat(block), number, cold(b.function, chain) ? 1 : 0, n,
      n > 0 ? b.calls.get(0) : NONE, n > 1 ? b.calls.get(1) : NONE};
    return answer(all[what]);
  }

  int arc(int arc, int what) {
    if (!in(what, 0, 4)) {
      return refuse(1);
    }
    if (!a(arc)) {
      return refuse(2);
    }
    Arc a = s.arcs.get(arc);
    int[] all = {a.from, a.to, a.count, a.flow, a.taken ? 1 : 0};
    return answer(all[what]);
  }

  int weight(int f, int other) {
    return f(f) && f(other) ? answer(pull(f, other)) : refuse(2);
  }

  int order(int how, int i) {
    if (!in(how, 0, 4) || i < 0) {
      return refuse(1);
    }
    return i < s.blocks.size() ? answer(line(how).get(i)) : refuse(3);
  }

  int place(int how, int block, int what) {
    if (!in(how, 0, 4) || !in(what, 0, 4)) {
      return refuse(1);
    }
    if (!b(block)) {
      return refuse(2);
    }
    List<Integer> line = line(how);
    List<Integer> pages = pages(line, block);
    int[] all = {line.indexOf(block), address(line, block), bytes(line, block), pages.get(0),
      pages.get(pages.size() - 1)};
    return answer(all[what]);
  }

  int falls(int how, int arc) {
    if (!in(how, 0, 4)) {
      return refuse(1);
    }
    if (!a(arc)) {
      return refuse(2);
    }
    return answer(falls(line(how), s.arcs.get(arc)) ? 1 : 0);
  }

  int cost(int how, int what) {
    if (!in(how, 0, 4) || !in(what, 0, 5)) {
      return refuse(1);
    }
    List<Integer> line = line(how);
    int bytes = 0;
    int turned = 0;
    int fall = 0;
    Set<Integer> pages = new TreeSet<>();
    Set<Integer> touched = new TreeSet<>();
    for (int x : line) {
      Block b = s.blocks.get(x);
      bytes += bytes(line, x);
      turned += b.end == 2 && falls(line, s.arcs.get(b.arcs.get(0))) ? 1 : 0;
      pages.addAll(pages(line, x));
      if (s.trace.contains(b.function) && (heat(x) > s.cold || entry(b.function) == x)) {
        touched.addAll(pages(line, x));
      }
    }
    for (Arc a : s.arcs) {
      fall += falls(line, a) ? 1 : 0;
    }
    int[] all = {jumpsIn(line, NONE), bytes, turned, pages.size(), touched.size(), fall};
    return answer(all[what]);
  }

  int jumps(int how, int f) {
    if (!in(how, 0, 4)) {
      return refuse(1);
    }
    return f(f) ? answer(jumpsIn(line(how), f)) : refuse(2);
  }

  int least(int f) {
    if (!f(f)) {
      return refuse(2);
    }
    if (mine(f).size() > 7) {
      return refuse(5);
    }
    List<Integer> left = mine(f);
    List<Integer> line = new ArrayList<>();
    line.add(left.remove(0));
    return answer(leastFrom(f, line, left));
  }

  private int leastFrom(int f, List<Integer> line, List<Integer> left) {
    if (left.isEmpty()) {
      return jumpsAlone(f, line);
    }
    int least = Integer.MAX_VALUE;
    for (int i = 0; i < left.size(); i++) {
      int b = left.remove(i);
      line.add(b);
      least = Math.min(least, leastFrom(f, line, left));
      line.remove(line.size() - 1);
      left.add(i, b);
    }
    return least;
  }

  private List<Integer> runLine;
  private int runSteps;
  private int runMost;
  private int runMisses;
  private int runJumps;
  private long runDraw;
  private LinkedList<Integer> runKept;
  private Set<Integer> runPages;

  int run(int how, int f, int steps, int seed, int what) {
    if (!in(how, 0, 4) || !in(steps, 1, 200) || !in(seed, 0, 9999) || !in(what, 0, 3)) {
      return refuse(1);
    }
    if (!f(f)) {
      return refuse(2);
    }
    runLine = line(how);
    runSteps = 0;
    runMost = steps;
    runMisses = 0;
    runJumps = 0;
    runDraw = seed;
    runKept = new LinkedList<>();
    runPages = new TreeSet<>();
    try {
      walk(f, 1);
    } catch (Stop stop) {
      // one step more than so many would be
    }
    int[] all = {runSteps, runMisses, runJumps, runPages.size()};
    return answer(all[what]);
  }

  private void walk(int f, int under) {
    int at = entry(f);
    while (true) {
      if (runSteps == runMost) {
        throw new Stop();
      }
      runSteps++;
      for (Integer p : pages(runLine, at)) {
        runPages.add(p);
        if (!runKept.remove(p)) {
          runMisses++;
        }
        runKept.addLast(p);
        if (runKept.size() > s.kept) {
          runKept.removeFirst();
        }
      }
      Block b = s.blocks.get(at);
      for (int c : b.calls) {
        if (under < 8) {
          walk(c, under + 1);
        }
      }
      if (b.end == 0) {
        return;
      }
      Arc a = s.arcs.get(b.arcs.get(0));
      if (b.end == 2) {
        Arc other = s.arcs.get(b.arcs.get(1));
        int m = a.worth() + other.worth();
        if (m > 0) {
          runDraw = (runDraw * 75 + 74) % 65537;
          a = runDraw % m < a.worth() ? a : other;
        }
      }
      runJumps += falls(runLine, a) ? 0 : 1;
      at = a.to;
    }
  }

  int count(int arc, int count) {
    if (!in(count, 0, 9999)) {
      return refuse(1);
    }
    if (!a(arc)) {
      return refuse(2);
    }
    int was = s.arcs.get(arc).count;
    if (was == count) {
      return refuse(4);
    }
    act();
    s.arcs.get(arc).count = count;
    mend();
    return answer(was);
  }

  int set(int what, int much) {
    int[] low = {0, 16, 1};
    int[] high = {9999, 512, 16};
    if (!in(what, 0, 2) || !in(much, low[what], high[what])) {
      return refuse(1);
    }
    int was = what == 0 ? s.cold : what == 1 ? s.page : s.kept;
    if (was == much) {
      return refuse(4);
    }
    act();
    s.cold = what == 0 ? much : s.cold;
    s.page = what == 1 ? much : s.page;
    s.kept = what == 2 ? much : s.kept;
    return answer(was);
  }

  int take(int how) {
    if (!in(how, 0, 3)) {
      return refuse(1);
    }
    List<Integer> line = line(how);
    if (line.equals(s.own)) {
      return refuse(4);
    }
    act();
    s.own = new ArrayList<>(line);
    return answer(jumpsIn(s.own, NONE));
  }

  private List<Integer> ownWith(int block, int place) {
    List<Integer> line = new ArrayList<>(s.own);
    line.remove((Integer) block);
    line.add(place, block);
    return line;
  }

  int move(int block, int place) {
    if (!in(place, 0, s.blocks.size() - 1)) {
      return refuse(1);
    }
    if (!b(block)) {
      return refuse(2);
    }
    if (s.own.indexOf(block) == place) {
      return refuse(4);
    }
    act();
    s.own = ownWith(block, place);
    return answer(jumpsIn(s.own, NONE));
  }

  int undo() {
    if (undos.isEmpty()) {
      return refuse(3);
    }
    s = undos.removeLast();
    mend();
    return answer(undos.size());
  }

  int moved(int block, int place) {
    if (!in(place, 0, s.blocks.size() - 1)) {
      return refuse(1);
    }
    return b(block) ? answer(jumpsIn(ownWith(block, place), NONE)) : refuse(2);
  }

  int best(int what) {
    if (!in(what, 0, 2)) {
      return refuse(1);
    }
    int[] best = {NONE, NONE, jumpsIn(s.own, NONE)};
    for (int b = 0; b < s.blocks.size(); b++) {
      for (int p = 0; p < s.blocks.size(); p++) {
        int then = jumpsIn(ownWith(b, p), NONE);
        if (then < best[2]) {
          best = new int[] {b, p, then};
        }
      }
    }
    return best[0] == NONE ? refuse(3) : answer(best[what]);
  }

  int enough(int arc) {
    if (!a(arc)) {
      return refuse(2);
    }
    int was = s.arcs.get(arc).count;
    int found = NONE;
    for (int c = 9900; c >= 0; c -= 100) {
      s.arcs.get(arc).count = c;
      mend();
      if (falls(line(1), s.arcs.get(arc))) {
        found = c;
      }
    }
    s.arcs.get(arc).count = was;
    mend();
    return found == NONE ? refuse(3) : answer(found);
  }
}
