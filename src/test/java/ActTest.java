/** Promises 18 to 22: ACTS, and that they are undone. */
public final class ActTest {
  private static final Check check = new Check("ActTest");
  private static final String DIAMOND =
      "fun a 100;block a 10 if 1 90 else 2 10;block a 8 go 3 90;block a 6 go 3 10;block a 5 ret 100;";

  public static void main(String[] args) {
    count();
    countOfFunction();
    set();
    take();
    takeIsOfNow();
    move();
    ownStays();
    undo();
    undoLoad();
    onlySixActs();
    onlyWithStatusZero();
    check.finish();
  }

  private static void ownIs(FetchOrder x, int... due) {
    for (int i = 0; i < due.length; i++) {
      check.due("order(4," + i + ")", x.order(4, i), due[i]);
    }
  }

  private static void count() {
    FetchOrder x = Check.of(DIAMOND);
    check.answered(x, "count(3,40)", x.count(3, 40), 90);
    check.due("its count", x.arc(3, 2), 40);
    check.due("now it is not taken", x.arc(3, 3), 40);
    check.due("so others are mended", x.arc(1, 3), 40);
    check.due("and others", x.arc(0, 3), 50);
    check.due("cost of mending", x.many(8), 150);
    check.answered(x, "count(3,0)", x.count(3, 0), 40);
    check.answered(x, "count(3,9999)", x.count(3, 9999), 0);
    check.refused(x, "it is so", x.count(3, 9999), 4);
    check.refused(x, "count(3,10000)", x.count(3, 10000), 1);
    check.refused(x, "count(3,-1)", x.count(3, -1), 1);
    check.refused(x, "count(6,1)", x.count(6, 1), 2);
    check.refused(x, "count(-1,1)", x.count(-1, 1), 2);
    check.refused(x, "count(6,-1)", x.count(6, -1), 1);
    check.due("many(10)", x.many(10), 4);
    FetchOrder y = Check.of(DIAMOND);
    y.count(1, 10);
    y.count(2, 90);
    y.count(3, 10);
    y.count(4, 90);
    check.due("orders follow", y.order(1, 1), 2);
  }

  private static void countOfFunction() {
    FetchOrder x = Check.of(DIAMOND);
    check.answered(x, "count(0,7)", x.count(0, 7), 100);
    check.due("arc(0,2)", x.arc(0, 2), 7);
    check.due("arc(0,3)", x.arc(0, 3), 7);
    check.due("arc(5,3)", x.arc(5, 3), 7);
  }

  private static void set() {
    FetchOrder x = Check.of(DIAMOND);
    int[][] edges = {{0, 0, 9999}, {64, 16, 512}, {4, 1, 16}};
    for (int what = 0; what < 3; what++) {
      int was = edges[what][0];
      int low = edges[what][1];
      int high = edges[what][2];
      check.refused(x, "it is so", x.set(what, was), 4);
      check.refused(x, "too low", x.set(what, low - 1), 1);
      check.refused(x, "too high", x.set(what, high + 1), 1);
      check.answered(x, "set high", x.set(what, high), was);
      check.due("many", x.many(3 + what), high);
      check.answered(x, "set low", x.set(what, low), high);
      check.due("many", x.many(3 + what), low);
    }
    check.refused(x, "set(3,1)", x.set(3, 1), 1);
    check.refused(x, "set(-1,1)", x.set(-1, 1), 1);
    Check.load(x, DIAMOND);
    check.due("a text without them", x.many(3), 0);
    check.due("a text without them", x.many(4), 64);
    check.due("a text without them", x.many(5), 4);
    FetchOrder y = new FetchOrder();
    check.answered(y, "without a program", y.set(1, 100), 64);
    check.due("many(4)", y.many(4), 100);
  }

  private static void take() {
    FetchOrder x = Check.of(DIAMOND);
    check.refused(x, "it is SOURCE", x.take(0), 4);
    check.answered(x, "take(1)", x.take(1), 20);
    ownIs(x, 0, 1, 3, 2);
    check.refused(x, "it is that", x.take(1), 4);
    check.refused(x, "it is that, too", x.take(2), 4);
    check.answered(x, "take(0)", x.take(0), 100);
    ownIs(x, 0, 1, 2, 3);
    check.refused(x, "take(4)", x.take(4), 1);
    check.refused(x, "take(5)", x.take(5), 1);
    check.refused(x, "take(-1)", x.take(-1), 1);
    FetchOrder y = Check.of(LookTest.TWO);
    check.answered(y, "take(3)", y.take(3), 11);
    ownIs(y, 3, 5, 0, 2, 4, 1);
    check.answered(y, "take(2)", y.take(2), 11);
    ownIs(y, 0, 2, 3, 5, 1, 4);
  }

  private static void takeIsOfNow() {
    FetchOrder x = Check.of(LookTest.TWO);
    x.take(1);
    x.set(0, 0);
    ownIs(x, 0, 2, 3, 5, 1, 4);
    check.due("CHAINED went on", x.order(1, 2), 1);
    check.answered(x, "take(1)", x.take(1), 11);
    ownIs(x, 0, 2, 1, 3, 5, 4);
  }

  private static void move() {
    FetchOrder x = Check.of(DIAMOND);
    check.answered(x, "move(3,0)", x.move(3, 0), 110);
    ownIs(x, 3, 0, 1, 2);
    check.answered(x, "move(3,2)", x.move(3, 2), 20);
    ownIs(x, 0, 1, 3, 2);
    check.answered(x, "move(0,3)", x.move(0, 3), 110);
    ownIs(x, 1, 3, 2, 0);
    check.answered(x, "move(3,3)", x.move(3, 3), 200);
    ownIs(x, 1, 2, 0, 3);
    check.refused(x, "it is there", x.move(3, 3), 4);
    check.refused(x, "no place", x.move(0, 4), 1);
    check.refused(x, "no place", x.move(9, -1), 1);
    check.refused(x, "no block", x.move(4, 0), 2);
    check.refused(x, "no block", x.move(-1, 0), 2);
    check.due("cost(4,0)", x.cost(4, 0), 200);
  }

  private static void ownStays() {
    FetchOrder x = Check.of(DIAMOND);
    x.move(3, 0);
    x.count(3, 1);
    x.set(1, 20);
    ownIs(x, 3, 0, 1, 2);
    Check.load(x, DIAMOND);
    ownIs(x, 0, 1, 2, 3);
  }

  private static void undo() {
    FetchOrder x = Check.of(DIAMOND);
    x.count(3, 40);
    x.set(0, 11);
    x.take(1);
    x.move(3, 0);
    check.answered(x, "undo move", x.undo(), 4);
    ownIs(x, 0, 1, 3, 2);
    check.answered(x, "undo take", x.undo(), 3);
    ownIs(x, 0, 1, 2, 3);
    check.due("cold", x.many(3), 11);
    check.answered(x, "undo set", x.undo(), 2);
    check.due("cold", x.many(3), 0);
    check.due("mending", x.many(8), 150);
    check.answered(x, "undo count", x.undo(), 1);
    check.due("count", x.arc(3, 2), 90);
    check.due("mending", x.many(8), 0);
    check.answered(x, "undo load", x.undo(), 0);
    check.due("functions", x.many(0), 0);
    check.due("blocks", x.many(1), 0);
    check.due("cost", x.cost(1, 1), 0);
    check.refused(x, "none left", x.undo(), 3);
    check.answered(x, "an act after undo", x.set(0, 5), 0);
    check.due("many(10)", x.many(10), 1);
  }

  private static void undoLoad() {
    FetchOrder x = Check.of(LookTest.TWO);
    x.move(5, 0);
    x.set(1, 99);
    Check.load(x, DIAMOND);
    check.due("blocks", x.many(1), 4);
    check.answered(x, "undo load", x.undo(), 3);
    check.due("blocks", x.many(1), 6);
    check.due("page", x.many(4), 99);
    check.due("trace", x.many(6), 1);
    check.due("heat", x.function(1, 3), 50);
    ownIs(x, 5, 0, 1, 2, 3, 4);
  }

  private static void onlySixActs() {
    FetchOrder x = Check.of(DIAMOND);
    for (int i = 1; i <= 9; i++) {
      x.set(0, i);
      check.due("many(10)", x.many(10), Math.min(6, i + 1));
    }
    for (int left = 5; left >= 0; left--) {
      check.answered(x, "undo", x.undo(), left);
      check.due("cold", x.many(3), 3 + left);
    }
    check.refused(x, "no more", x.undo(), 3);
    check.due("cold", x.many(3), 3);
  }

  private static void onlyWithStatusZero() {
    FetchOrder x = Check.of(DIAMOND);
    x.count(3, 90);
    x.set(0, 0);
    x.take(0);
    x.move(0, 0);
    x.load(5);
    Check.load(x, "!");
    x.moved(0, 3);
    x.best(0);
    x.enough(3);
    x.run(0, 0, 9, 9, 0);
    check.due("many(10)", x.many(10), 1);
  }
}
