/** Promises 23 to 25: moved, best, enough; they change nothing. */
public final class PaperTest {
  private static final Check check = new Check("PaperTest");
  private static final String DIAMOND =
      "fun a 100;block a 10 if 1 90 else 2 10;block a 8 go 3 90;block a 6 go 3 10;block a 5 ret 100;";

  public static void main(String[] args) {
    moved();
    movedIsAsMove();
    movedToTheEnds();
    best();
    bestOfSeveral();
    bestStepByStep();
    enough();
    enoughGoesByColdChains();
    enoughIsTheLeast();
    enoughUpToTheLast();
    enoughChangesNothing();
    check.finish();
  }

  private static void moved() {
    FetchOrder x = Check.of(DIAMOND);
    check.answered(x, "moved(3,0)", x.moved(3, 0), 110);
    check.answered(x, "moved(3,2)", x.moved(3, 2), 20);
    check.answered(x, "moved(2,0)", x.moved(2, 0), 20);
    check.answered(x, "where it is", x.moved(1, 1), 100);
    check.due("nothing changed", x.order(4, 3), 3);
    check.refused(x, "no place", x.moved(0, 4), 1);
    check.refused(x, "no place", x.moved(9, -1), 1);
    check.refused(x, "no block", x.moved(4, 0), 2);
    check.refused(x, "no block", x.moved(-1, 0), 2);
  }

  private static void movedIsAsMove() {
    FetchOrder x = Check.of(LookTest.TWO);
    x.take(3);
    for (int b = 0; b < 6; b++) {
      for (int p = 0; p < 6; p++) {
        int then = x.moved(b, p);
        int done = x.move(b, p);
        check.due("moved(" + b + "," + p + ")", then, x.status() == 4 ? x.cost(4, 0) : done);
        if (done != -1) {
          x.undo();
        }
      }
    }
  }

  private static void movedToTheEnds() {
    FetchOrder x = Check.of("fun a 1;block a 5 if 1 20 else 2 1;block a 5 go 0 20;block a 5 ret 1;");
    check.due("FLOW back to 0", x.arc(3, 3), 20);
    check.answered(x, "1 to the last place", x.moved(1, 2), 40);
    check.answered(x, "1 to the first place", x.moved(1, 0), 20);
  }

  private static void bestIs(FetchOrder x, int block, int place, int jumps) {
    check.answered(x, "best(0)", x.best(0), block);
    check.answered(x, "best(1)", x.best(1), place);
    check.answered(x, "best(2)", x.best(2), jumps);
  }

  private static void best() {
    FetchOrder x = Check.of(DIAMOND);
    bestIs(x, 2, 0, 20);
    check.due("nothing changed", x.order(4, 0), 0);
    check.refused(x, "best(3)", x.best(3), 1);
    check.refused(x, "best(-1)", x.best(-1), 1);
    x.take(1);
    for (int what = 0; what < 3; what++) {
      check.refused(x, "none makes them less", x.best(what), 3);
    }
    check.refused(x, "1 comes first", x.best(3), 1);
    FetchOrder none = new FetchOrder();
    check.refused(none, "without blocks", none.best(0), 3);
    check.refused(none, "without blocks", none.moved(0, 0), 1);
    check.refused(none, "without blocks", none.enough(0), 2);
  }

  private static void bestOfSeveral() {
    // Moves of 0, of 1 and of 2 let the 5 fall: of several the least BLOCK, then the least place.
    FetchOrder x = Check.of("fun a 5;block a 5 go 2 5;block a 5 ret 0;block a 5 ret 5;");
    bestIs(x, 0, 1, 0);
    FetchOrder y = Check.of("fun a 5;block a 5 ret 5;block a 5 go 3 5;block a 5 ret 0;block a 5 go 1 5;");
    y.count(1, 0);
    check.due("flows of 1 and 3", y.arc(2, 3) + y.arc(4, 3), 10);
    // Behind 2 its 5 fall to 3, behind 3 the 5 of that fall to it: the least place.
    bestIs(y, 1, 2, 5);
  }

  private static void bestStepByStep() {
    FetchOrder x = Check.of(LookTest.TWO);
    int before = x.cost(4, 0);
    for (int i = 0; i < 20; i++) {
      int block = x.best(0);
      if (x.status() != 0) {
        break;
      }
      int place = x.best(1);
      int jumps = x.best(2);
      check.due("less", jumps < before ? 1 : 0, 1);
      check.answered(x, "move", x.move(block, place), jumps);
      before = jumps;
    }
    check.due("in the end", before, 11);
  }

  private static void enough() {
    FetchOrder x = Check.of(DIAMOND);
    check.answered(x, "enough(1)", x.enough(1), 100);
    check.answered(x, "enough(3)", x.enough(3), 100);
    check.refused(x, "never", x.enough(2), 3);
    check.refused(x, "from OUTSIDE", x.enough(0), 3);
    check.refused(x, "to OUTSIDE", x.enough(5), 3);
    check.refused(x, "no such", x.enough(6), 2);
    check.refused(x, "no such", x.enough(-1), 2);
    // 0 is enough where the BLOCKS stand by numbers anyhow.
    FetchOrder y = Check.of("fun a 10;block a 5 go 1 10;block a 5 ret 10;");
    check.answered(y, "enough(1)", y.enough(1), 0);
    FetchOrder z = Check.of("fun a 10;block a 5 go 0 10;block a 5 ret 10;");
    check.refused(z, "to itself", z.enough(1), 3);
  }

  private static void enoughGoesByColdChains() {
    // CHAINS 0 1 3, 2, 4: if 2 is COLD it goes behind all, and from 3 to 4 falls without any COUNT.
    String text = "fun a 50;block a 5 if 1 200 else 2 40;block a 5 if 3 190 else 4 50;block a 5 go 1 40;"
        + "block a 5 if 0 190 else 4 0;block a 5 ret 50;";
    FetchOrder x = Check.of(text + "cold 45;");
    check.answered(x, "enough(7)", x.enough(7), 0);
    FetchOrder y = Check.of(text);
    check.refused(y, "enough(7)", y.enough(7), 3);
  }

  private static void enoughIsTheLeast() {
    FetchOrder x = Check.of("fun a 9000;block a 5 if 2 2000 else 1 7000;block a 5 ret 5000;block a 5 ret 9500;");
    // With 5,000, as much as the other way has, CHAINS are not less than numbers.
    check.answered(x, "enough(1)", x.enough(1), 5100);
    for (int tried = 0; tried <= 5100; tried += 100) {
      int was = x.count(1, tried);
      check.due("falls with " + tried, x.falls(1, 1), tried == 5100 ? 1 : 0);
      if (was != FetchOrder.NONE) {
        x.undo();
      }
    }
  }

  private static void enoughUpToTheLast() {
    String text = "fun a 9999;block a 5 if 2 0 else 1 9990;block a 5 ret 98xx;block a 5 ret 9999;";
    FetchOrder x = Check.of(text.replace("98xx", "9899"));
    check.answered(x, "9,900 is more than 9,899", x.enough(1), 9900);
    FetchOrder y = Check.of(text.replace("98xx", "9900"));
    check.refused(y, "9,900 is not more than 9,900", y.enough(1), 3);
  }

  private static void enoughChangesNothing() {
    FetchOrder x = Check.of(LookTest.TWO);
    for (int arc = 0; arc < 10; arc++) {
      x.enough(arc);
    }
    check.due("count", x.arc(2, 2), 95);
    check.due("flow", x.arc(2, 3), 95);
    check.due("mending", x.many(8), 0);
    check.due("chain", x.block(1, 5), 1);
    check.due("CHAINED", x.order(1, 4), 1);
    check.due("bytes", x.cost(1, 1), 87);
    check.due("acts", x.many(10), 1);
  }
}
