/** Promises 1, 2 and 6 to 10: a new object, STATUS, what there is, FLOW, CHAINS, CLUSTERS. */
public final class LookTest {
  private static final Check check = new Check("LookTest");

  public static void main(String[] args) {
    newObject();
    statusOfTheLatestCall();
    many();
    functions();
    blocks();
    arcs();
    brokenFlow();
    flowOfLikeCounts();
    flowWithoutWayOut();
    weights();
    chainsStandByBonds();
    chainsByNumbers();
    coldChains();
    clusters();
    clustersFitPages();
    check.finish();
  }

  private static void newObject() {
    FetchOrder x = new FetchOrder();
    check.due("status()", x.status(), 0);
    int[] due = {0, 0, 0, 0, 64, 4, 0, 0, 0, 0, 0};
    for (int what = 0; what <= 10; what++) {
      check.answered(x, "many(" + what + ")", x.many(what), due[what]);
    }
    check.refused(x, "undo()", x.undo(), 3);
    check.refused(x, "load(1)", x.load(1), 1);
    check.due("NONE", FetchOrder.NONE, -1);
  }

  private static void statusOfTheLatestCall() {
    FetchOrder x = new FetchOrder();
    x.many(11);
    check.due("status()", x.status(), 1);
    check.due("status() has none", x.status(), 1);
    x.feed(0, 0, 0, 0, 0);
    check.due("feed() has none", x.status(), 1);
    x.fault(0);
    check.due("fault() has none", x.status(), 1);
    x.block(0, 0);
    check.due("status()", x.status(), 2);
    x.many(0);
    check.due("status()", x.status(), 0);
  }

  /** Two functions, a cold block each, one call; all counts fit. */
  static final String TWO = "fun a 100;fun b 50;"
      + "block a 10 if 2 95 else 1 5;block a 20 call b go 2 5;block a 10 ret 100;"
      + "block b 10 if 1 1 else 2 49;block b 30 call a call b ret 1;block b 5 ret 49;cold 5;trace b;";

  private static void many() {
    FetchOrder x = Check.of(TWO);
    int[] due = {2, 6, 10, 5, 64, 4, 1, 0, 0, 2, 1};
    for (int what = 0; what <= 10; what++) {
      check.answered(x, "many(" + what + ")", x.many(what), due[what]);
    }
    check.refused(x, "many(-1)", x.many(-1), 1);
    check.refused(x, "many(11)", x.many(11), 1);
  }

  private static void functions() {
    FetchOrder x = Check.of(TWO);
    int[][] due = {{3, 0, 40, 100, 2, 0, 1, -1}, {3, 3, 45, 50, 2, 1, 0, 0}};
    for (int f = 0; f < 2; f++) {
      for (int what = 0; what < 8; what++) {
        check.answered(x, "function(" + f + "," + what + ")", x.function(f, what), due[f][what]);
      }
    }
    check.refused(x, "function(2,0)", x.function(2, 0), 2);
    check.refused(x, "function(-1,0)", x.function(-1, 0), 2);
    check.refused(x, "function(0,8)", x.function(0, 8), 1);
    check.refused(x, "function(9,-1)", x.function(9, -1), 1);
  }

  private static void blocks() {
    FetchOrder x = Check.of(TWO);
    int[][] due = {
      {0, 10, 2, 2, 100, 0, 0, 0, -1, -1},
      {0, 20, 1, 4, 5, 1, 1, 1, 1, -1},
      {0, 10, 0, 5, 100, 0, 0, 0, -1, -1},
      {1, 10, 2, 6, 50, 0, 0, 0, -1, -1},
      {1, 30, 0, 8, 1, 1, 1, 2, 0, 1},
      {1, 5, 0, 9, 49, 0, 0, 0, -1, -1}};
    for (int b = 0; b < 6; b++) {
      for (int what = 0; what < 10; what++) {
        check.answered(x, "block(" + b + "," + what + ")", x.block(b, what), due[b][what]);
      }
    }
    check.refused(x, "block(6,0)", x.block(6, 0), 2);
    check.refused(x, "block(-1,0)", x.block(-1, 0), 2);
    check.refused(x, "block(0,10)", x.block(0, 10), 1);
    check.refused(x, "block(6,-1)", x.block(6, -1), 1);
  }

  private static void arcs() {
    FetchOrder x = Check.of(TWO);
    int[][] due = {
      {-1, 0, 100, 100, 1}, {-1, 3, 50, 50, 1}, {0, 2, 95, 95, 0}, {0, 1, 5, 5, 1}, {1, 2, 5, 5, 0},
      {2, -1, 100, 100, 1}, {3, 4, 1, 1, 1}, {3, 5, 49, 49, 1}, {4, -1, 1, 1, 0}, {5, -1, 49, 49, 0}};
    for (int a = 0; a < 10; a++) {
      for (int what = 0; what < 5; what++) {
        check.answered(x, "arc(" + a + "," + what + ")", x.arc(a, what), due[a][what]);
      }
    }
    check.refused(x, "arc(10,0)", x.arc(10, 0), 2);
    check.refused(x, "arc(-1,0)", x.arc(-1, 0), 2);
    check.refused(x, "arc(0,5)", x.arc(0, 5), 1);
    check.refused(x, "arc(99,-1)", x.arc(99, -1), 1);
  }

  private static void flowsAre(FetchOrder x, int... due) {
    for (int a = 0; a < due.length; a++) {
      check.answered(x, "arc(" + a + ",3)", x.arc(a, 3), due[a]);
    }
  }

  private static void brokenFlow() {
    FetchOrder x = Check.of("fun a 10;block a 5 go 1 1;block a 5 if 0 50 else 2 40;block a 5 ret 3;");
    flowsAre(x, 3, 1, -2, 3, 3);
    check.due("taken", x.arc(2, 4), 1);
    check.due("not taken", x.arc(4, 4), 0);
    check.due("many(7)", x.many(7), 1);
    check.due("many(8)", x.many(8), 7 + 52 + 37);
    check.due("heat", x.block(0, 4), 1);
    check.due("heat", x.block(2, 4), 3);
    check.due("a flow below 0 is no jump", x.cost(0, 0), 0);
    FetchOrder y = Check.of("fun a 1;block a 5 go 1 2;block a 5 if 0 3 else 1 4;");
    flowsAre(y, 0, 2, 2, 4);
    check.due("a FLOW of 0 is not broken", y.many(7), 0);
    check.due("never one to itself", y.arc(3, 4), 0);
    check.due("heat counts it", y.block(1, 4), 6);
    FetchOrder z = Check.of("fun a 9;block a 5 go 1 1;block a 5 if 0 8 else 2 2;block a 5 ret 2;");
    flowsAre(z, 2, 1, -1, 2, 2);
    check.answered(z, "a FLOW that is -1", z.arc(2, 3), -1);
  }

  private static void flowOfLikeCounts() {
    FetchOrder x = Check.of("fun a 7;block a 5 if 1 7 else 1 7;block a 5 ret 7;");
    int[] taken = {1, 1, 0, 0};
    for (int a = 0; a < 4; a++) {
      check.due("of like ones the least: " + a, x.arc(a, 4), taken[a]);
    }
    flowsAre(x, 7, 0, 7, 7);
  }

  private static void flowWithoutWayOut() {
    FetchOrder x = Check.of("fun a 10;block a 5 go 0 5;block a 5 go 2 5;block a 5 go 1 3;block a 5 go 3 8;");
    flowsAre(x, 0, 5, 3, 3, 8);
    check.due("taken", x.arc(2, 4), 1);
    check.due("a block by itself", x.block(3, 4), 8);
  }

  private static void weights() {
    FetchOrder x = Check.of(TWO);
    check.answered(x, "weight(0,1)", x.weight(0, 1), 5);
    check.answered(x, "weight(1,0)", x.weight(1, 0), 1);
    check.answered(x, "weight(1,1)", x.weight(1, 1), 1);
    check.answered(x, "weight(0,0)", x.weight(0, 0), 0);
    check.refused(x, "weight(2,0)", x.weight(2, 0), 2);
    check.refused(x, "weight(0,2)", x.weight(0, 2), 2);
    check.refused(x, "weight(-1,0)", x.weight(-1, 0), 2);
    FetchOrder y = Check.of("fun a 4;fun b 1;block a 5 call b call b ret 4;block b 5 ret 1;");
    check.answered(y, "each call counts", y.weight(0, 1), 8);
    FetchOrder z = Check.of("fun a 1;fun b 1;block a 5 if 1 50 else 2 5;block a 5 call b go 3 60;"
        + "block a 5 ret 7;block a 5 ret 40;block b 5 ret 1;");
    flowsAre(z, 1, 1, -4, 5, -4, 5, -4);
    check.due("broken", z.many(7), 3);
    check.due("mending", z.many(8), 54 + 64 + 44 + 2);
    check.answered(z, "heat below 0", z.block(1, 4), -4);
    check.answered(z, "heat below 0 as 0", z.weight(0, 1), 0);
    check.answered(z, "no caller", z.function(1, 6), -1);
  }

  private static void chainsStandByBonds() {
    chainsStandAs("fun a 100;block a 5 if 3 60 else 4 40;block a 5 ret 30;block a 5 ret 70;"
        + "block a 5 if 2 45 else 1 15;block a 5 if 1 15 else 2 25;", 2, 0, 3, 2, 4, 1);
    // The greatest bond first, then, of like ones, that with the least BLOCK.
    chainsStandAs("fun a 100;block a 5 if 1 20 else 2 80;block a 5 ret 20;block a 5 if 3 50 else 4 30;"
        + "block a 5 ret 50;block a 5 ret 30;", 3, 0, 2, 3, 4, 1);
    chainsStandAs("fun a 90;block a 5 if 1 30 else 2 60;block a 5 ret 30;block a 5 if 3 30 else 4 30;"
        + "block a 5 ret 30;block a 5 ret 30;", 3, 0, 2, 3, 1, 4);
    // Bonds to all that stand count, not only to the ENTRY's CHAIN.
    chainsStandAs("fun a 200;block a 5 if 1 20 else 2 180;block a 5 ret 20;block a 5 if 3 120 else 4 60;"
        + "block a 5 ret 120;block a 5 if 6 31 else 5 29;block a 5 ret 29;block a 5 ret 31;", 4, 0, 2, 3, 4, 6, 5, 1);
    // Bonds go either way: 20 into the third CHAIN and 11 out of it are more than 30 into the second.
    chainsStandAs("fun a 100;block a 5 if 1 30 else 2 70;block a 5 ret 30;block a 5 if 3 50 else 5 20;"
        + "block a 5 ret 61;block a 5 go 3 11;block a 5 if 4 11 else 6 9;block a 5 ret 9;", 4, 0, 2, 3, 5, 4, 1, 6);
  }

  private static void chainsStandAs(String text, int chains, int... line) {
    FetchOrder x = Check.of(text + "cold 0;");
    check.due("chains of " + text, x.function(0, 4), chains);
    int number = 0;
    for (int i = 0; i < line.length; i++) {
      check.due("order(1," + i + ") of " + text, x.order(1, i), line[i]);
      int mine = x.block(line[i], 5);
      check.due("number of " + line[i] + " in " + text, mine == number || mine == number + 1 ? 1 : 0, 1);
      number = mine;
    }
    check.due("last number", number, chains - 1);
  }

  private static void chainsByNumbers() {
    FetchOrder x = Check.of("fun a 10;block a 5 go 1 10;block a 5 ret 10;block a 5 ret 0;");
    check.due("not less: one chain", x.function(0, 4), 1);
    for (int b = 0; b < 3; b++) {
      check.due("its number", x.block(b, 5), 0);
      check.due("never cold", x.block(b, 6), 0);
    }
    FetchOrder y = Check.of("fun a 10;block a 5 if 0 90 else 1 10;block a 5 ret 10;");
    check.due("never behind the last of its own", y.order(1, 0), 0);
  }

  private static void coldChains() {
    FetchOrder x = Check.of(LookTest.TWO);
    check.due("heat 5 with cold 5", x.block(1, 6), 1);
    x.set(0, 4);
    check.due("heat 5 with cold 4", x.block(1, 6), 0);
    check.due("heat 1 with cold 4", x.block(4, 6), 1);
    x.set(0, 9999);
    check.due("an entry's chain", x.block(2, 6), 0);
  }

  private static void placesAre(FetchOrder x, int... due) {
    for (int f = 0; f < due.length; f++) {
      check.due("function(" + f + ",5)", x.function(f, 5), due[f]);
    }
  }

  private static void clusters() {
    String text = "fun a 1;fun b 9;fun c 9;block a 10 ret 1;block b 10 call c ret 9;block c 10 call b ret 9;";
    FetchOrder x = Check.of(text);
    check.due("many(9)", x.many(9), 2);
    placesAre(x, 2, 1, 0);
    check.due("caller", x.function(0, 6), -1);
    check.due("caller", x.function(1, 6), 2);
    check.due("caller", x.function(2, 6), 1);
    x.set(1, 19);
    check.due("too big together", x.many(9), 3);
    placesAre(x, 2, 0, 1);
    x.set(1, 20);
    check.due("just fits", x.many(9), 2);
    FetchOrder y = Check.of("fun a 5;fun b 7;fun c 6;block a 8 call b ret 5;block b 8 call b call c ret 7;block c 8 ret 6;");
    check.due("not by itself", y.function(1, 6), 0);
    check.due("many(9)", y.many(9), 1);
    placesAre(y, 0, 1, 2);
    FetchOrder z = Check.of("fun a 5;fun b 5;fun c 6;block a 8 call c ret 5;block b 8 call c ret 5;block c 8 ret 6;");
    check.due("of several the least", z.function(2, 6), 0);
    FetchOrder w = Check.of("fun a 0;fun b 6;block a 8 call b ret 0;block b 8 ret 6;");
    check.due("a weight of 0 is none", w.function(1, 6), -1);
    check.due("many(9)", w.many(9), 2);
  }

  private static void clustersFitPages() {
    // Cut: 10,000 by 30 and 1,000 by 3 are both 333, so the least FUNCTION stands first.
    FetchOrder x = Check.of("fun a 10;fun b 1;fun c 2;block a 30 ret 10;block b 3 ret 1;block c 5 ret 2;");
    placesAre(x, 1, 2, 0);
    FetchOrder y = Check.of("fun b 1;fun a 10;block b 3 ret 1;block a 29 ret 10;");
    placesAre(y, 1, 0);
    // 2,000 by 7 is 285.7 and 1,000 by 3.5 would be as much: not to be told by parts of one.
    FetchOrder z = Check.of("fun a 27;fun b 11;block a 80 ret 27;block b 33 ret 11;");
    placesAre(z, 0, 1);
    FetchOrder w = Check.of("fun a 33;fun b 34;block a 98 ret 33;block b 99 ret 34;");
    placesAre(w, 1, 0);
  }
}
