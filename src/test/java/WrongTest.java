/** Section 5 for every call: numbers of all kinds in several states; nothing is thrown, a refusal changes nothing. */
public final class WrongTest {
  private static final Check check = new Check("WrongTest");
  private static final int[] ODD = {Integer.MIN_VALUE, -65537, -1, 0, 1, 2, 5, 39, 40, 88, 200, 512, 900, 10000,
    Integer.MAX_VALUE};
  private static final int KINDS = 24;

  public static void main(String[] args) {
    String[] texts = {"", "fun a 0;block a 1 ret 0;", LookTest.TWO,
      "fun a 9999;page 16;kept 1;trace a;" + "block a9if0 9else39 9;".repeat(30) + "block a1ret7;".repeat(10),
      "fun a 1;block a 5 go 0 9999;block a 5 call a call a if 1 9999 else 0 0;"};
    for (String text : texts) {
      for (int kind = 0; kind < KINDS; kind++) {
        refusalsChangeNothing(text, kind);
      }
    }
    check.finish();
  }

  private static void refusalsChangeNothing(String text, int kind) {
    FetchOrder x = Check.of(text);
    check.due("it loads", x.status(), 0);
    long before = print(x);
    for (int a : ODD) {
      for (int b : ODD) {
        int got = call(x, kind, a, b);
        if (x.status() != 0) {
          check.due("kind " + kind + " (" + a + "," + b + ")", got, -1);
          check.due("kind " + kind + " (" + a + "," + b + ") left all as it was", print(x), before);
        } else if (isAct(kind)) {
          x = Check.of(text);
        }
      }
    }
    check.due("kind " + kind + " in " + text, print(x), before);
  }

  private static boolean isAct(int kind) {
    return kind >= 17 && kind <= 22;
  }

  private static int call(FetchOrder x, int kind, int a, int b) {
    switch (kind) {
      case 0: return x.many(a);
      case 1: return x.function(a, b);
      case 2: return x.block(a, b);
      case 3: return x.arc(a, b);
      case 4: return x.weight(a, b);
      case 5: return x.order(a, b);
      case 6: return x.place(a, b, 0);
      case 7: return x.place(0, a, b);
      case 8: return x.falls(a, b);
      case 9: return x.cost(a, b);
      case 10: return x.jumps(a, b);
      case 11: return x.least(a);
      case 12: return x.run(a, b, 5, 5, 0);
      case 13: return x.run(0, 0, a, b, 0);
      case 14: return x.run(1, b, 200, 9, a);
      case 15: return x.moved(a, b);
      case 16: return x.best(a);
      case 17: return x.count(a, b);
      case 18: return x.set(a, b);
      case 19: return x.take(a);
      case 20: return x.move(a, b);
      case 21: return x.load(a);
      case 22: return x.undo();
      default: return x.enough(a);
    }
  }

  /** A number that is another one, most likely, if anything that can be asked has changed. */
  private static long print(FetchOrder x) {
    long h = 17;
    for (int what = 0; what <= 10; what++) {
      h = h * 31 + x.many(what);
    }
    int blocks = x.many(1);
    int arcs = x.many(2);
    for (int how = 0; how < 5; how++) {
      for (int what = 0; what < 6; what++) {
        h = h * 31 + x.cost(how, what);
      }
      for (int b = 0; b < blocks; b++) {
        h = h * 31 + x.order(how, b);
      }
    }
    for (int a = 0; a < arcs; a++) {
      h = (h * 31 + x.arc(a, 2)) * 31 + x.arc(a, 3);
    }
    return (h * 31 + x.fault(0)) * 31 + x.fault(1);
  }
}
