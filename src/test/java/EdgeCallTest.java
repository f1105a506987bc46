import java.util.function.IntUnaryOperator;

/** Section 5: STATUS of every call, each number at both ends, one beyond, and far beyond. */
public final class EdgeCallTest {
  private static final Check check = new Check("EdgeCallTest");

  /**
   * As much as there can be: 8 FUNCTIONS of 5 BLOCKS, each an EITHER both of whose ARCS go to the ENTRY, so 88 ARCS.
   * Of a FUNCTION: the ARC from OUTSIDE has FLOW 0, the ENTRY's two go to itself with 1 each, of the others' the
   * first is taken with -1, the second has 1.
   */
  static final String FULL = full();

  /** No two of the first four ORDERS are alike: FUNCTIONS a b c, b c a, c b a, each with a COLD CHAIN. */
  static final String UNLIKE = "fun a 10;fun b 100;fun c 50;block a 5 if 1 1 else 2 9;block a 5 ret 1;block a 5 ret 9;"
      + "block b 5 if 1 1 else 2 99;block b 5 ret 1;block b 5 ret 99;"
      + "block c 5 if 1 1 else 2 49;block c 5 ret 1;block c 5 ret 49;cold 1;trace c;";

  public static void main(String[] args) {
    fullAsItIs();
    whats();
    functions();
    blocks();
    arcs();
    orders();
    placesOfOrder();
    runNumbers();
    countNumbers();
    setNumbers();
    takeNumbers();
    takeOfForty();
    movePlaces();
    firstThatHolds();
    leastUpToSeven();
    withoutFunctions(new FetchOrder(), "new");
    withoutFunctions(Check.of(" "), "an empty text");
    FetchOrder undone = Check.of(FULL);
    undone.undo();
    withoutFunctions(undone, "undone");
    functionOfOneBlock();
    noneOrMinusOne();
    statusOfCallsThatHaveNone();
    check.finish();
  }

  private static String full() {
    StringBuilder t = new StringBuilder();
    for (int f = 0; f < 8; f++) {
      t.append("fun ").append((char) ('a' + f)).append("1;");
    }
    for (int b = 0; b < 40; b++) {
      t.append("block ").append((char) ('a' + b / 5)).append("1if0 1else0 1;");
    }
    return t.toString();
  }

  /** From low to high there is an answer; below, and far below, STATUS is one, above, and far above, the other. */
  private static void ends(FetchOrder x, String name, IntUnaryOperator call, int[] range, int below, int above) {
    for (int number : new int[] {range[0], range[1]}) {
      call.applyAsInt(number);
      check.due(name + " with " + number + ": status()", x.status(), 0);
    }
    for (int number : new int[] {range[0] - 1, range[0] - 65536, Integer.MIN_VALUE}) {
      check.refused(x, name + " with " + number, call.applyAsInt(number), below);
    }
    for (int number : new int[] {range[1] + 1, range[1] + 65536, Integer.MAX_VALUE}) {
      check.refused(x, name + " with " + number, call.applyAsInt(number), above);
    }
  }

  private static int[] to(int high) {
    return new int[] {0, high};
  }

  private static void fullAsItIs() {
    FetchOrder x = Check.of(FULL);
    int[] many = {8, 40, 88, 0, 64, 4, 0, 32, 72, 8, 1};
    for (int what = 0; what <= 10; what++) {
      check.answered(x, "many(" + what + ")", x.many(what), many[what]);
    }
    int[] last = {5, 35, 5, 2, 1, 7, -1, -1};
    for (int what = 0; what < 8; what++) {
      check.answered(x, "function(7," + what + ")", x.function(7, what), last[what]);
    }
    int[] lastBlock = {7, 1, 2, 86, 0, 0, 0, 0, -1, -1};
    for (int what = 0; what < 10; what++) {
      check.answered(x, "block(39," + what + ")", x.block(39, what), lastBlock[what]);
    }
    int[][] lastArcs = {{39, 35, 1, -1, 1}, {39, 35, 1, 1, 0}};
    for (int what = 0; what < 5; what++) {
      check.answered(x, "arc(86," + what + ")", x.arc(86, what), lastArcs[0][what]);
      check.answered(x, "arc(87," + what + ")", x.arc(87, what), lastArcs[1][what]);
    }
    int[] cost = {48, 120, 0, 2, 0, 0};
    for (int how = 0; how < 5; how++) {
      for (int what = 0; what < 6; what++) {
        check.answered(x, "cost(" + how + "," + what + ")", x.cost(how, what), cost[what]);
      }
      for (int i = 0; i < 40; i++) {
        check.answered(x, "order(" + how + "," + i + ")", x.order(how, i), i);
        check.answered(x, "place(" + how + "," + i + ",1)", x.place(how, i, 1), 3 * i);
      }
      for (int f = 0; f < 8; f++) {
        check.answered(x, "jumps(" + how + "," + f + ")", x.jumps(how, f), 6);
      }
    }
    int[] run = {200, 1, 200, 1};
    for (int what = 0; what < 4; what++) {
      check.answered(x, "run(4,7,200,9999," + what + ")", x.run(4, 7, 200, 9999, what), run[what]);
    }
    int[] best = {0, 1, 47};
    for (int what = 0; what < 3; what++) {
      check.answered(x, "best(" + what + ")", x.best(what), best[what]);
    }
    check.answered(x, "least(7)", x.least(7), 6);
    check.answered(x, "moved(39,0)", x.moved(39, 0), 48);
    check.answered(x, "moved(39,34)", x.moved(39, 34), 48);
    check.answered(x, "moved(39,35)", x.moved(39, 35), 47);
    check.answered(x, "moved(35,39)", x.moved(35, 39), 47);
    check.refused(x, "enough(87)", x.enough(87), 3);
    check.answered(x, "move(35,39)", x.move(35, 39), 47);
    check.answered(x, "falls(4,87)", x.falls(4, 87), 1);
    check.answered(x, "cost(4,2)", x.cost(4, 2), 1);
    check.answered(x, "cost(4,5)", x.cost(4, 5), 2);
  }

  private static void whats() {
    FetchOrder x = Check.of(FULL);
    ends(x, "many", w -> x.many(w), to(10), 1, 1);
    ends(x, "function's what", w -> x.function(7, w), to(7), 1, 1);
    ends(x, "block's what", w -> x.block(39, w), to(9), 1, 1);
    ends(x, "arc's what", w -> x.arc(87, w), to(4), 1, 1);
    ends(x, "place's what", w -> x.place(4, 39, w), to(4), 1, 1);
    ends(x, "cost's what", w -> x.cost(4, w), to(5), 1, 1);
    ends(x, "run's what", w -> x.run(4, 7, 200, 9999, w), to(3), 1, 1);
    ends(x, "best's what", w -> x.best(w), to(2), 1, 1);
  }

  private static void functions() {
    FetchOrder x = Check.of(FULL);
    ends(x, "function", f -> x.function(f, 0), to(7), 2, 2);
    ends(x, "weight's function", f -> x.weight(f, 7), to(7), 2, 2);
    ends(x, "weight's other", f -> x.weight(0, f), to(7), 2, 2);
    ends(x, "jumps' function", f -> x.jumps(4, f), to(7), 2, 2);
    ends(x, "least", f -> x.least(f), to(7), 2, 2);
    ends(x, "run's function", f -> x.run(0, f, 1, 0, 0), to(7), 2, 2);
  }

  private static void blocks() {
    FetchOrder x = Check.of(FULL);
    ends(x, "block", b -> x.block(b, 0), to(39), 2, 2);
    ends(x, "place's block", b -> x.place(0, b, 0), to(39), 2, 2);
    ends(x, "moved's block", b -> x.moved(b, 39), to(39), 2, 2);
    ends(x, "move's block", b -> x.move(b, 20), to(39), 2, 2);
  }

  private static void arcs() {
    FetchOrder x = Check.of(FULL);
    ends(x, "arc", a -> x.arc(a, 0), to(87), 2, 2);
    ends(x, "falls' arc", a -> x.falls(0, a), to(87), 2, 2);
    ends(x, "count's arc", a -> x.count(a, 9), to(87), 2, 2);
    // GO to the BLOCK right behind at both ends: without FLOWS they stand by numbers.
    FetchOrder y = Check.of("fun a 0;block a 1 go 1 0;block a 1 go 2 0;block a 1 go 0 0;");
    int[] due = {-1, 0, 0, -1};
    int[] status = {3, 0, 0, 3};
    for (int a = 0; a < 4; a++) {
      check.due("enough(" + a + ")", y.enough(a), due[a]);
      check.due("enough(" + a + "): status()", y.status(), status[a]);
    }
    for (int a : new int[] {-1, 4, -65536, 65536, Integer.MIN_VALUE, Integer.MAX_VALUE}) {
      check.refused(y, "enough(" + a + ")", y.enough(a), 2);
    }
  }

  private static void orders() {
    FetchOrder x = Check.of(FULL);
    ends(x, "order's how", h -> x.order(h, 39), to(4), 1, 1);
    ends(x, "place's how", h -> x.place(h, 39, 0), to(4), 1, 1);
    ends(x, "falls' how", h -> x.falls(h, 87), to(4), 1, 1);
    ends(x, "cost's how", h -> x.cost(h, 0), to(4), 1, 1);
    ends(x, "jumps' how", h -> x.jumps(h, 7), to(4), 1, 1);
    ends(x, "run's how", h -> x.run(h, 7, 1, 0, 0), to(4), 1, 1);
  }

  private static void placesOfOrder() {
    FetchOrder x = Check.of(FULL);
    for (int how = 0; how < 5; how++) {
      int h = how;
      ends(x, "order's i", i -> x.order(h, i), to(39), 1, 3);
    }
  }

  private static void runNumbers() {
    FetchOrder x = Check.of(FULL);
    ends(x, "run's steps", n -> x.run(0, 0, n, 0, 0), new int[] {1, 200}, 1, 1);
    ends(x, "run's seed", s -> x.run(0, 0, 1, s, 0), to(9999), 1, 1);
    check.answered(x, "one step", x.run(0, 0, 1, 0, 0), 1);
    check.answered(x, "200 steps", x.run(0, 0, 200, 0, 0), 200);
  }

  private static void countNumbers() {
    FetchOrder x = Check.of(FULL);
    ends(x, "count", c -> x.count(87, c), to(9999), 1, 1);
    check.answered(x, "arc(87,2)", x.arc(87, 2), 9999);
    check.refused(x, "it is so", x.count(87, 9999), 4);
    check.answered(x, "count(87,0)", x.count(87, 0), 9999);
    check.refused(x, "it is so", x.count(87, 0), 4);
    check.answered(x, "count(0,9999)", x.count(0, 9999), 1);
    check.answered(x, "a FUNCTION's COUNT", x.arc(0, 2), 9999);
  }

  private static void setNumbers() {
    FetchOrder x = Check.of(FULL);
    int[][] range = {{0, 9999}, {16, 512}, {1, 16}};
    int[] is = {0, 64, 4};
    for (int what = 0; what < 3; what++) {
      int w = what;
      check.refused(x, "it is so", x.set(w, is[w]), 4);
      check.answered(x, "another one", x.set(w, is[w] + 1), is[w]);
      check.answered(x, "and another one", x.set(w, is[w] + 2), is[w] + 1);
      ends(x, "set(" + w + ")", much -> x.set(w, much), range[w], 1, 1);
      check.answered(x, "many", x.many(3 + w), range[w][1]);
      check.refused(x, "it is so at the end", x.set(w, range[w][1]), 4);
    }
    FetchOrder y = Check.of(FULL);
    ends(y, "set's what", w -> y.set(w, 16), to(2), 1, 1);
    check.answered(y, "COLD", y.many(3), 16);
    check.answered(y, "PAGE is as it was", y.many(4), 64);
    check.answered(y, "KEPT", y.many(5), 16);
  }

  private static void takeNumbers() {
    FetchOrder x = Check.of(UNLIKE);
    x.move(5, 0);
    ends(x, "take", h -> x.take(h), to(3), 1, 1);
    check.refused(x, "it is that", x.take(3), 4);
    int[] due = {157, 3, 3, 3};
    int[][] lines = {{0, 1, 2, 3, 4, 5, 6, 7, 8}, {0, 2, 3, 5, 6, 8, 1, 4, 7}, {3, 5, 6, 8, 0, 2, 4, 7, 1},
      {6, 8, 3, 5, 0, 2, 7, 4, 1}};
    for (int how = 0; how < 4; how++) {
      check.answered(x, "take(" + how + ")", x.take(how), due[how]);
      check.refused(x, "it is that", x.take(how), 4);
      for (int i = 0; i < 9; i++) {
        check.answered(x, "OWN is ORDER " + how, x.order(4, i), lines[how][i]);
      }
    }
  }

  private static void takeOfForty() {
    FetchOrder x = Check.of(FULL);
    for (int how = 0; how < 4; how++) {
      check.refused(x, "all are alike", x.take(how), 4);
    }
    check.answered(x, "move(38,39)", x.move(38, 39), 48);
    check.answered(x, "but for the last two", x.take(3), 48);
    check.refused(x, "it is that", x.take(0), 4);
    check.answered(x, "move(1,0)", x.move(1, 0), 47);
    check.answered(x, "but for the first two", x.take(2), 48);
  }

  private static void movePlaces() {
    FetchOrder x = Check.of(FULL);
    ends(x, "moved's place", p -> x.moved(20, p), to(39), 1, 1);
    ends(x, "move's place", p -> x.move(20, p), to(39), 1, 1);
    check.refused(x, "it is there", x.move(20, 39), 4);
    check.answered(x, "move(20,0)", x.move(20, 0), 48);
    check.refused(x, "it is there", x.move(20, 0), 4);
    check.answered(x, "order(4,0)", x.order(4, 0), 20);
    check.answered(x, "order(4,1)", x.order(4, 1), 0);
    check.answered(x, "order(4,39)", x.order(4, 39), 39);
  }

  /** "STATUS of a call is the first of these that holds": two that hold at once. */
  private static void firstThatHolds() {
    FetchOrder x = Check.of(FULL);
    for (int no : new int[] {-1, 99}) {
      check.refused(x, "function", x.function(no, 8), 1);
      check.refused(x, "function", x.function(no, -1), 1);
      check.refused(x, "block", x.block(no, 10), 1);
      check.refused(x, "block", x.block(no, -1), 1);
      check.refused(x, "arc", x.arc(no, 5), 1);
      check.refused(x, "arc", x.arc(no, -1), 1);
      check.refused(x, "place", x.place(5, no, 0), 1);
      check.refused(x, "place", x.place(-1, no, 0), 1);
      check.refused(x, "place", x.place(0, no, 5), 1);
      check.refused(x, "place", x.place(0, no, -1), 1);
      check.refused(x, "falls", x.falls(5, no), 1);
      check.refused(x, "falls", x.falls(-1, no), 1);
      check.refused(x, "jumps", x.jumps(5, no), 1);
      check.refused(x, "jumps", x.jumps(-1, no), 1);
      check.refused(x, "run's how", x.run(5, no, 1, 0, 0), 1);
      check.refused(x, "run's how", x.run(-1, no, 1, 0, 0), 1);
      check.refused(x, "run's steps", x.run(0, no, 0, 0, 0), 1);
      check.refused(x, "run's steps", x.run(0, no, 201, 0, 0), 1);
      check.refused(x, "run's seed", x.run(0, no, 1, -1, 0), 1);
      check.refused(x, "run's seed", x.run(0, no, 1, 10000, 0), 1);
      check.refused(x, "run's what", x.run(0, no, 1, 0, -1), 1);
      check.refused(x, "run's what", x.run(0, no, 1, 0, 4), 1);
      check.refused(x, "count", x.count(no, 10000), 1);
      check.refused(x, "count", x.count(no, -1), 1);
      check.refused(x, "move", x.move(no, 40), 1);
      check.refused(x, "move", x.move(no, -1), 1);
      check.refused(x, "moved", x.moved(no, 40), 1);
      check.refused(x, "moved", x.moved(no, -1), 1);
    }
    check.refused(x, "order: no ORDER, not so many", x.order(5, 40), 1);
    check.refused(x, "order: no ORDER, not so many", x.order(-1, 40), 1);
    check.refused(x, "order: no ORDER, i below 0", x.order(5, -1), 1);
    check.refused(x, "take: OWN is no other ORDER, and is that already", x.take(4), 1);
    FetchOrder none = new FetchOrder();
    check.refused(none, "best: no what, and none makes them less", none.best(3), 1);
    check.refused(none, "best: no what, and none makes them less", none.best(-1), 1);
    check.refused(x, "set: no what", x.set(3, 4), 1);
    check.refused(x, "set: no what", x.set(-1, 0), 1);
    check.due("nothing was done", x.many(10), 1);
  }

  private static void leastUpToSeven() {
    StringBuilder t = new StringBuilder("fun a 1;fun b 1;");
    t.append("block a 1 ret 1;".repeat(7)).append("block b 1 ret 1;".repeat(8));
    FetchOrder x = Check.of(t.toString());
    check.answered(x, "7 BLOCKS", x.least(0), 0);
    check.refused(x, "8 BLOCKS", x.least(1), 5);
    check.refused(x, "no FUNCTION", x.least(2), 2);
    check.refused(x, "no FUNCTION", x.least(-1), 2);
    FetchOrder y = Check.of("fun a 1;" + "block a1ret1;".repeat(40));
    check.refused(y, "40 BLOCKS", y.least(0), 5);
    // Seven BLOCKS told backwards: 0 6 5 4 3 2 1 lets each of six GO fall.
    FetchOrder z = Check.of("fun a 9;block a 1 go 6 9;block a 1 ret 9;block a 1 go 1 9;block a 1 go 2 9;"
        + "block a 1 go 3 9;block a 1 go 4 9;block a 1 go 5 9;");
    check.answered(z, "cost(0,0)", z.cost(0, 0), 54);
    check.answered(z, "least(0)", z.least(0), 0);
    check.answered(z, "cost(1,0)", z.cost(1, 0), 0);
  }

  private static void withoutFunctions(FetchOrder x, String name) {
    int[] many = {0, 0, 0, 0, 64, 4, 0, 0, 0, 0};
    for (int what = 0; what < 10; what++) {
      check.answered(x, name + ": many(" + what + ")", x.many(what), many[what]);
    }
    for (int no = -1; no <= 1; no++) {
      check.refused(x, name + ": function", x.function(no, 0), 2);
      check.refused(x, name + ": block", x.block(no, 0), 2);
      check.refused(x, name + ": arc", x.arc(no, 0), 2);
      check.refused(x, name + ": weight", x.weight(no, 0), 2);
      check.refused(x, name + ": least", x.least(no), 2);
      check.refused(x, name + ": count", x.count(no, 1), 2);
      check.refused(x, name + ": enough", x.enough(no), 2);
      check.refused(x, name + ": move", x.move(0, no), 1);
      check.refused(x, name + ": moved", x.moved(0, no), 1);
    }
    for (int how = 0; how < 5; how++) {
      for (int what = 0; what < 6; what++) {
        check.answered(x, name + ": cost", x.cost(how, what), 0);
      }
      check.refused(x, name + ": order", x.order(how, 0), 3);
      check.refused(x, name + ": order", x.order(how, -1), 1);
      check.refused(x, name + ": place", x.place(how, 0, 0), 2);
      check.refused(x, name + ": falls", x.falls(how, 0), 2);
      check.refused(x, name + ": jumps", x.jumps(how, 0), 2);
      check.refused(x, name + ": run", x.run(how, 0, 1, 0, 0), 2);
      check.refused(x, name + ": take", x.take(how), how == 4 ? 1 : 4);
    }
    for (int what = 0; what < 3; what++) {
      check.refused(x, name + ": best", x.best(what), 3);
    }
    check.refused(x, name + ": set", x.set(0, 0), 4);
    check.answered(x, name + ": set", x.set(0, 7), 0);
    check.answered(x, name + ": set", x.set(1, 16), 64);
    check.answered(x, name + ": set", x.set(2, 16), 4);
    check.answered(x, name + ": many(4)", x.many(4), 16);
  }

  private static void functionOfOneBlock() {
    FetchOrder x = Check.of("fun a 7;block a 5 ret 3;trace a;");
    int[] many = {1, 1, 2, 0, 64, 4, 1, 0, 4, 1, 1};
    for (int what = 0; what <= 10; what++) {
      check.answered(x, "many(" + what + ")", x.many(what), many[what]);
    }
    int[] function = {1, 0, 5, 3, 1, 0, -1, 0};
    for (int what = 0; what < 8; what++) {
      check.answered(x, "function(0," + what + ")", x.function(0, what), function[what]);
    }
    int[] block = {0, 5, 0, 1, 3, 0, 0, 0, -1, -1};
    for (int what = 0; what < 10; what++) {
      check.answered(x, "block(0," + what + ")", x.block(0, what), block[what]);
    }
    int[][] arcs = {{-1, 0, 7, 3, 1}, {0, -1, 3, 3, 0}};
    for (int what = 0; what < 5; what++) {
      check.answered(x, "arc(0," + what + ")", x.arc(0, what), arcs[0][what]);
      check.answered(x, "arc(1," + what + ")", x.arc(1, what), arcs[1][what]);
    }
    int[] cost = {0, 5, 0, 1, 1, 0};
    int[] place = {0, 0, 5, 0, 0};
    int[] run = {1, 1, 0, 1};
    for (int how = 0; how < 5; how++) {
      for (int what = 0; what < 6; what++) {
        check.answered(x, "cost(" + how + "," + what + ")", x.cost(how, what), cost[what]);
      }
      for (int what = 0; what < 5; what++) {
        check.answered(x, "place(" + how + ",0," + what + ")", x.place(how, 0, what), place[what]);
      }
      for (int what = 0; what < 4; what++) {
        check.answered(x, "run(" + how + ",0,200,5," + what + ")", x.run(how, 0, 200, 5, what), run[what]);
      }
      check.answered(x, "order(" + how + ",0)", x.order(how, 0), 0);
      check.refused(x, "order(" + how + ",1)", x.order(how, 1), 3);
      check.answered(x, "falls(" + how + ",0)", x.falls(how, 0), 0);
      check.answered(x, "falls(" + how + ",1)", x.falls(how, 1), 0);
      check.answered(x, "jumps(" + how + ",0)", x.jumps(how, 0), 0);
      check.refused(x, "take(" + how + ")", x.take(how), how == 4 ? 1 : 4);
    }
    check.answered(x, "least(0)", x.least(0), 0);
    check.answered(x, "weight(0,0)", x.weight(0, 0), 0);
    check.refused(x, "move(0,0)", x.move(0, 0), 4);
    check.refused(x, "move(0,1)", x.move(0, 1), 1);
    check.refused(x, "move(1,0)", x.move(1, 0), 2);
    check.answered(x, "moved(0,0)", x.moved(0, 0), 0);
    check.refused(x, "moved(0,1)", x.moved(0, 1), 1);
    check.refused(x, "best(0)", x.best(0), 3);
    check.refused(x, "enough(0)", x.enough(0), 3);
    check.refused(x, "enough(1)", x.enough(1), 3);
  }

  /** "STATUS tells NONE from -1". */
  private static void noneOrMinusOne() {
    FetchOrder x = Check.of("fun a 9;block a 5 go 1 1;block a 5 if 0 8 else 2 2;block a 5 ret 2;");
    check.answered(x, "no CALLER", x.function(0, 6), -1);
    check.answered(x, "not in TRACE", x.function(0, 7), -1);
    check.answered(x, "no first CALL", x.block(0, 8), -1);
    check.answered(x, "no second CALL", x.block(0, 9), -1);
    check.answered(x, "from OUTSIDE", x.arc(0, 0), -1);
    check.answered(x, "to OUTSIDE", x.arc(4, 1), -1);
    check.answered(x, "FLOW -1", x.arc(2, 3), -1);
    FetchOrder y = Check.of(MINUS_ONE);
    check.answered(y, "HEAT -1", y.block(1, 4), -1);
    check.refused(y, "no BLOCK", y.block(4, 4), 2);
  }

  /** Into BLOCK 1 comes a single ARC, of FLOW -1. */
  static final String MINUS_ONE =
      "fun a 4;block a 5 if 1 50 else 2 5;block a 5 go 3 60;block a 5 ret 7;block a 5 ret 40;";

  private static void statusOfCallsThatHaveNone() {
    FetchOrder x = Check.of(FULL);
    int[] kept = {1, 2, 3, 0};
    for (int status : kept) {
      if (status == 1) {
        x.many(11);
      } else if (status == 2) {
        x.block(40, 0);
      } else if (status == 3) {
        x.order(0, 40);
      } else {
        x.many(0);
      }
      check.due("status()", x.status(), status);
      x.feed(1, 2, 3, 4, 5);
      check.due("behind feed()", x.status(), status);
      x.fault(0);
      x.fault(1);
      x.fault(9);
      check.due("behind fault()", x.status(), status);
      check.due("behind status()", x.status(), status);
    }
    for (int i = 0; i < 50; i++) {
      x.feed(0, 0, 0, 0, 0);
    }
    check.due("a feed() too many has none either", x.feed(0, 0, 0, 0, 0), -1);
    check.due("status()", x.status(), 0);
    check.refused(x, "4", x.set(0, 0), 4);
    check.refused(x, "9", x.load(40), 9);
    check.due("fault()", x.fault(0), 1);
    check.due("still 9", x.status(), 9);
  }
}
