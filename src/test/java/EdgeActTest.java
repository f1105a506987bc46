import java.util.ArrayList;
import java.util.List;
import java.util.function.ToIntFunction;

/** ACTS at their edges: what each changes and leaves, the latest six, undo() down to none, calls that are refused. */
public final class EdgeActTest {
  private static final Check check = new Check("EdgeActTest");
  private static final String DIAMOND =
      "fun a 100;block a 10 if 1 90 else 2 10;block a 8 go 3 90;block a 6 go 3 10;block a 5 ret 100;";

  public static void main(String[] args) {
    eachActCanBeUndone();
    undoDownToNone();
    theLatestSix();
    undoAndActByTurns();
    actsWithStatusZeroAlone();
    undoOfLoads();
    eachLoadByItself();
    countsOfEveryArc();
    countChangesOneFunction();
    countIsAsIfTold();
    setOfEach();
    takeOfEach();
    takeIsThatAlready();
    moveUpAndDown();
    moveToBothEnds();
    movedIsWhatMoveGives();
    movedInARing();
    bestOfAllMoves();
    bestOfSeveral();
    bestMustMakeThemLess();
    enoughAtBothEnds();
    enoughOfNone();
    enoughLeavesAll();
    refusedCallsChangeNothing();
    check.finish();
  }

  private static void same(String name, String one, String two) {
    check.due(name, one.equals(two) ? 1 : 0, 1);
  }

  private static void own(FetchOrder x, int... due) {
    for (int i = 0; i < due.length; i++) {
      check.answered(x, "order(4," + i + ")", x.order(4, i), due[i]);
    }
  }

  private static final List<ToIntFunction<FetchOrder>> ACTS = acts();

  /** One after the other, each is an ACT that makes a change. */
  private static List<ToIntFunction<FetchOrder>> acts() {
    List<ToIntFunction<FetchOrder>> all = new ArrayList<>();
    all.add(x -> Check.load(x, EdgeCallTest.UNLIKE));
    all.add(x -> x.count(0, 77));
    all.add(x -> x.set(0, 9));
    all.add(x -> x.set(1, 16));
    all.add(x -> x.set(2, 1));
    all.add(x -> x.take(1));
    all.add(x -> x.move(8, 0));
    all.add(x -> x.count(5, 9999));
    all.add(x -> Check.load(x, DIAMOND));
    all.add(x -> x.count(3, 9));
    all.add(x -> x.take(2));
    all.add(x -> x.move(0, 3));
    all.add(x -> x.load(0));
    all.add(x -> x.set(1, 512));
    return all;
  }

  private static void eachActCanBeUndone() {
    FetchOrder x = new FetchOrder();
    for (int i = 0; i < ACTS.size(); i++) {
      String before = Picture.of(x);
      int could = x.many(10);
      ACTS.get(i).applyAsInt(x);
      check.due("ACT " + i + ": status()", x.status(), 0);
      String after = Picture.of(x);
      check.due("ACT " + i + " changed something", before.equals(after) ? 1 : 0, 0);
      check.answered(x, "many(10)", x.many(10), Math.min(6, could + 1));
      check.answered(x, "undo()", x.undo(), Math.min(5, could));
      same("ACT " + i + " is undone", beyondFault(Picture.of(x)), beyondFault(before));
      ACTS.get(i).applyAsInt(x);
      same("ACT " + i + " done again", Picture.of(x), after);
    }
  }

  /** What fault() tells is of the latest load(), undone or not. */
  private static String beyondFault(String picture) {
    return picture.substring(picture.indexOf(' '));
  }

  private static void undoDownToNone() {
    FetchOrder x = new FetchOrder();
    check.refused(x, "a new object", x.undo(), 3);
    List<String> pictures = new ArrayList<>();
    for (int i = 0; i < 6; i++) {
      pictures.add(beyondFault(Picture.of(x)));
      ACTS.get(i).applyAsInt(x);
    }
    for (int i = 5; i >= 0; i--) {
      check.answered(x, "undo()", x.undo(), i);
      check.answered(x, "many(10)", x.many(10), i);
      same("as ahead of ACT " + i, beyondFault(Picture.of(x)), pictures.get(i));
    }
    String none = Picture.of(x);
    for (int i = 0; i < 3; i++) {
      check.refused(x, "there is none", x.undo(), 3);
      check.answered(x, "many(10)", x.many(10), 0);
      same("nothing changed", Picture.of(x), none);
    }
  }

  private static void theLatestSix() {
    for (int acts = 1; acts <= ACTS.size(); acts++) {
      FetchOrder x = new FetchOrder();
      List<String> pictures = new ArrayList<>();
      for (int i = 0; i < acts; i++) {
        pictures.add(beyondFault(Picture.of(x)));
        ACTS.get(i).applyAsInt(x);
        check.answered(x, "many(10)", x.many(10), Math.min(6, i + 1));
      }
      int can = Math.min(6, acts);
      for (int i = 1; i <= can; i++) {
        check.answered(x, "undo() " + i + " of " + acts, x.undo(), can - i);
        same("undo() " + i + " of " + acts, beyondFault(Picture.of(x)), pictures.get(acts - i));
      }
      check.refused(x, "one more than the latest 6", x.undo(), 3);
    }
  }

  private static void undoAndActByTurns() {
    FetchOrder x = Check.of(DIAMOND);
    for (int i = 1; i <= 20; i++) {
      check.answered(x, "set(0," + i + ")", x.set(0, i), i == 1 ? 0 : i - 1);
      check.answered(x, "set(1,100)", x.set(1, 100), 64);
      check.answered(x, "undo()", x.undo(), Math.min(5, i + 1));
      check.answered(x, "PAGE", x.many(4), 64);
      check.answered(x, "COLD", x.many(3), i);
    }
    // Of six one went for each undone ACT that had pushed it out.
    for (int i = 5; i >= 1; i--) {
      check.answered(x, "undo()", x.undo(), i - 1);
      check.answered(x, "COLD", x.many(3), 14 + i);
    }
    check.refused(x, "none left", x.undo(), 3);
    check.answered(x, "an ACT again", x.set(0, 1), 15);
    check.answered(x, "many(10)", x.many(10), 1);
    check.answered(x, "undo()", x.undo(), 0);
    check.answered(x, "COLD", x.many(3), 15);
  }

  private static void actsWithStatusZeroAlone() {
    FetchOrder x = Check.of(DIAMOND);
    x.count(3, 90);
    x.count(3, -1);
    x.count(9, 1);
    x.set(0, 0);
    x.set(0, -1);
    x.set(3, 1);
    x.take(0);
    x.take(4);
    x.move(0, 0);
    x.move(0, 4);
    x.move(4, 0);
    x.load(1);
    x.load(-1);
    Check.load(x, "!");
    Picture.of(x);
    x.enough(3);
    check.answered(x, "many(10)", x.many(10), 1);
    check.answered(x, "undo()", x.undo(), 0);
    check.answered(x, "many(0)", x.many(0), 0);
  }

  private static void undoOfLoads() {
    FetchOrder x = Check.of(DIAMOND + "cold 3;page 33;kept 3;trace a;");
    x.move(3, 0);
    String before = beyondFault(Picture.of(x));
    Check.load(x, "fun b 1;block b 1 ret 1;");
    own(x, 0);
    check.answered(x, "COLD", x.many(3), 0);
    check.answered(x, "PAGE", x.many(4), 64);
    check.answered(x, "KEPT", x.many(5), 4);
    check.answered(x, "TRACE", x.many(6), 0);
    check.answered(x, "undo()", x.undo(), 2);
    same("all as it was", beyondFault(Picture.of(x)), before);
    own(x, 3, 0, 1, 2);
    check.due("fault() is of the latest load()", x.fault(0), 0);
  }

  /** Whatever was told ahead, a PROGRAM that is loaded is as on a new object. */
  private static void eachLoadByItself() {
    String[] texts = {EdgeCallTest.FULL, DIAMOND, EdgeCallTest.UNLIKE, "", EdgeFlowTest.COLD_ENTRY, LookTest.TWO,
      "fun a 0;fun b 0;block b 1 ret 0;block a 1 ret 0;kept 9;page 16;cold 9;trace b a;", EdgeCallTest.MINUS_ONE,
      "fun a 7;block a 5 ret 3;", "kept 9;", "fun c 0;fun a 0;fun b 0;block a 1 ret 0;block b 1 ret 0;block c 1 ret 0;"};
    FetchOrder x = new FetchOrder();
    for (int i = 0; i < texts.length; i++) {
      for (int j = 0; j < texts.length; j++) {
        Check.load(x, texts[j]);
        x.move(0, 1);
        x.set(2, 3);
        Check.load(x, texts[i]);
        same(texts[i] + " behind " + texts[j], Picture.of(x), Picture.of(Check.of(texts[i])));
        // So it is behind a text with a FAULT that went far.
        Check.load(x, texts[j] + "!");
        Check.load(x, texts[i]);
        same(texts[i] + " behind a FAULT in " + texts[j], Picture.of(x), Picture.of(Check.of(texts[i])));
      }
    }
  }

  // ---- count, set, take, move

  private static void countsOfEveryArc() {
    FetchOrder x = Check.of(DIAMOND);
    int[] was = {100, 90, 10, 90, 10, 100};
    for (int a = 0; a < 6; a++) {
      check.refused(x, "it is so", x.count(a, was[a]), 4);
      check.answered(x, "count(" + a + ",0)", x.count(a, 0), was[a]);
      check.answered(x, "arc(" + a + ",2)", x.arc(a, 2), 0);
      check.refused(x, "it is so", x.count(a, 0), 4);
      check.answered(x, "count(" + a + ",9999)", x.count(a, 9999), 0);
      check.answered(x, "arc(" + a + ",2)", x.arc(a, 2), 9999);
    }
    check.answered(x, "like ones: the least ARC", x.arc(1, 4) + x.arc(2, 4) + x.arc(3, 4), 3);
  }

  private static void countChangesOneFunction() {
    FetchOrder x = Check.of(EdgeCallTest.UNLIKE);
    check.answered(x, "count(10,3)", x.count(10, 3), 99);
    int[] flows = {10, 4, 50, 1, 9, 1, 9, 1, 3, 1, 3, 1, 49, 1, 49};
    for (int a = 0; a < 15; a++) {
      check.answered(x, "arc(" + a + ",3)", x.arc(a, 3), flows[a]);
    }
    check.answered(x, "mending", x.many(8), 96 + 96);
  }

  /** With another COUNT all is as if the text had told it so. */
  private static void countIsAsIfTold() {
    String text = "fun a #;fun b #;block a 5 if 1 # else 3 #;block a 5 call b if 2 # else 4 #;block b 9 call a ret #;"
        + "block a 5 if 4 # else 5 #;block a 5 ret #;block a 5 ret #;block a 5 go 0 #;cold 3;page 40;trace b;";
    int[] counts = {100, 30, 71, 29, 56, 15, 30, 15, 41, 29, 30, 41};
    FetchOrder x = Check.of(told(text, counts));
    check.due("status()", x.status(), 0);
    int[] others = {0, 9999, 29, 57, 3};
    for (int a = 0; a < counts.length; a++) {
      for (int other : others) {
        if (other != counts[a]) {
          check.answered(x, "count(" + a + "," + other + ")", x.count(a, other), counts[a]);
          counts[a] = other;
          same("as told", Picture.of(x), Picture.of(Check.of(told(text, counts))));
        }
      }
      int last = a % 2 == 0 ? 44 : 7;
      x.count(a, last);
      counts[a] = last;
    }
  }

  private static String told(String text, int[] counts) {
    String all = text;
    for (int count : counts) {
      all = all.replaceFirst("#", Integer.toString(count));
    }
    return all;
  }

  private static void setOfEach() {
    FetchOrder x = Check.of(EdgeCallTest.UNLIKE);
    check.answered(x, "COLD", x.set(0, 0), 1);
    check.answered(x, "no COLD CHAIN", x.block(1, 6), 0);
    check.answered(x, "CHAINED", x.order(1, 2), 1);
    check.answered(x, "PAGE", x.set(1, 16), 64);
    check.answered(x, "PAGES", x.cost(0, 3), 3);
    check.answered(x, "KEPT", x.set(2, 1), 4);
    check.answered(x, "many(5)", x.many(5), 1);
    own(x, 0, 1, 2, 3, 4, 5, 6, 7, 8);
  }

  private static void takeOfEach() {
    int[][] lines = {{0, 1, 2, 3, 4, 5, 6, 7, 8}, {0, 2, 3, 5, 6, 8, 1, 4, 7}, {3, 5, 6, 8, 0, 2, 4, 7, 1},
      {6, 8, 3, 5, 0, 2, 7, 4, 1}};
    for (int how = 1; how < 4; how++) {
      FetchOrder x = Check.of(EdgeCallTest.UNLIKE);
      check.answered(x, "take(" + how + ")", x.take(how), 3);
      own(x, lines[how]);
      check.answered(x, "cost(4,0)", x.cost(4, 0), 3);
      // OWN is what it was then: the ORDER goes on by itself.
      x.set(0, 0);
      own(x, lines[how]);
      check.answered(x, "back to SOURCE", x.take(0), 157);
      own(x, lines[0]);
    }
  }

  private static void takeIsThatAlready() {
    FetchOrder x = Check.of(EdgeCallTest.UNLIKE);
    check.refused(x, "SOURCE at first", x.take(0), 4);
    x.take(1);
    check.refused(x, "CHAINED", x.take(1), 4);
    // Moved by hand to just what CLUSTERED is.
    int[] clustered = {3, 5, 6, 8, 0, 2, 4, 7, 1};
    for (int i = 0; i < 9; i++) {
      x.move(clustered[i], i);
    }
    check.refused(x, "CLUSTERED", x.take(2), 4);
    x.move(1, 7);
    check.answered(x, "but for the last two", x.take(2), 3);
    x.move(3, 1);
    check.answered(x, "but for the first two", x.take(2), 3);
    check.answered(x, "STARTED", x.take(3), 3);
    check.answered(x, "CHAINED", x.take(1), 3);
  }

  private static void moveUpAndDown() {
    FetchOrder x = Check.of(EdgeCallTest.UNLIKE);
    x.move(2, 5);
    own(x, 0, 1, 3, 4, 5, 2, 6, 7, 8);
    x.move(2, 1);
    own(x, 0, 2, 1, 3, 4, 5, 6, 7, 8);
    x.move(2, 2);
    own(x, 0, 1, 2, 3, 4, 5, 6, 7, 8);
    x.move(7, 6);
    own(x, 0, 1, 2, 3, 4, 5, 7, 6, 8);
    check.answered(x, "ACTS", x.many(10), 5);
  }

  private static void moveToBothEnds() {
    FetchOrder x = Check.of(DIAMOND);
    check.answered(x, "move(0,3)", x.move(0, 3), 190);
    own(x, 1, 2, 3, 0);
    check.answered(x, "move(0,0)", x.move(0, 0), 100);
    own(x, 0, 1, 2, 3);
    check.answered(x, "move(3,0)", x.move(3, 0), 110);
    own(x, 3, 0, 1, 2);
    check.answered(x, "move(3,3)", x.move(3, 3), 100);
    check.refused(x, "it is there", x.move(3, 3), 4);
    check.refused(x, "it is there", x.move(0, 0), 4);
    check.refused(x, "no place", x.move(3, 4), 1);
    check.refused(x, "no place", x.move(0, -1), 1);
  }

  // ---- moved, best, enough

  private static void movedIsWhatMoveGives() {
    for (String text : new String[] {DIAMOND, EdgeCallTest.UNLIKE, EdgeFlowTest.COLD_ENTRY, EdgeCallTest.MINUS_ONE}) {
      FetchOrder x = Check.of(text);
      int blocks = x.many(1);
      for (int b = 0; b < blocks; b++) {
        for (int p = 0; p < blocks; p++) {
          int jumps = x.moved(b, p);
          check.due("moved() has STATUS 0", x.status(), 0);
          int done = x.move(b, p);
          if (x.status() == 4) {
            check.due("where it is", jumps, x.cost(4, 0));
          } else {
            check.due("moved(" + b + "," + p + ")", jumps, done);
            check.due("cost(4,0)", jumps, x.cost(4, 0));
            x.undo();
          }
        }
      }
    }
  }

  private static void movedInARing() {
    FetchOrder x = Check.of("fun a 0;block a 5 go 1 9;block a 5 go 2 9;block a 5 go 0 9;");
    int[][] due = {{9, 27, 9}, {27, 9, 27}, {9, 27, 9}};
    for (int b = 0; b < 3; b++) {
      for (int p = 0; p < 3; p++) {
        check.answered(x, "moved(" + b + "," + p + ")", x.moved(b, p), due[b][p]);
      }
    }
    check.refused(x, "best(0)", x.best(0), 3);
  }

  private static void bestOfAllMoves() {
    for (String text : new String[] {DIAMOND, EdgeCallTest.UNLIKE, LookTest.TWO, EdgeFlowTest.COLD_ENTRY}) {
      FetchOrder x = Check.of(text);
      for (int turn = 0; turn < 9; turn++) {
        int[] best = {-1, -1, x.cost(4, 0)};
        for (int b = 0; b < x.many(1); b++) {
          for (int p = 0; p < x.many(1); p++) {
            int jumps = x.moved(b, p);
            if (jumps < best[2]) {
              best = new int[] {b, p, jumps};
            }
          }
        }
        if (best[0] < 0) {
          check.refused(x, "none makes them less", x.best(0), 3);
          break;
        }
        for (int what = 0; what < 3; what++) {
          check.answered(x, "best(" + what + ")", x.best(what), best[what]);
        }
        check.answered(x, "move", x.move(best[0], best[1]), best[2]);
      }
    }
  }

  private static void bestOfSeveral() {
    // Behind 2 and ahead of it, and many more, all leave 0: the least BLOCK, then the least place.
    FetchOrder x = Check.of("fun a 5;block a 5 go 2 5;block a 5 ret 0;block a 5 ret 5;");
    check.answered(x, "the BLOCK", x.best(0), 0);
    check.answered(x, "the place", x.best(1), 1);
    check.answered(x, "JUMPS", x.best(2), 0);
    // The least JUMPS come first: 3 to place 1 leaves 4, 0 to place 2 leaves 5.
    FetchOrder y = Check.of("fun a 9;block a 5 if 3 5 else 2 4;block a 5 ret 0;block a 5 ret 4;block a 5 ret 5;");
    check.answered(y, "the BLOCK", y.best(0), 0);
    check.answered(y, "the place", y.best(1), 2);
    check.answered(y, "JUMPS", y.best(2), 4);
    // Only a higher BLOCK makes the least: 2 between 0 and 1.
    FetchOrder z = Check.of("fun a 9;block a 5 go 2 9;block a 5 ret 9;block a 5 go 1 9;");
    check.answered(z, "the BLOCK", z.best(0), 1);
    check.answered(z, "the place", z.best(1), 2);
    check.answered(z, "JUMPS", z.best(2), 0);
  }

  private static void bestMustMakeThemLess() {
    FetchOrder x = Check.of("fun a 9;block a 5 go 1 9;block a 5 ret 9;");
    for (int what = 0; what < 3; what++) {
      check.refused(x, "JUMPS are 0", x.best(what), 3);
    }
    // 0 1 2 and 0 2 1 have 4 JUMPS both: as many is not less.
    FetchOrder y = Check.of("fun a 8;block a 5 if 1 4 else 2 4;block a 5 ret 4;block a 5 ret 4;");
    check.answered(y, "JUMPS", y.cost(4, 0), 4);
    check.answered(y, "JUMPS then", y.moved(1, 2), 4);
    for (int what = 0; what < 3; what++) {
      check.refused(y, "as many", y.best(what), 3);
    }
    check.refused(y, "no what", y.best(3), 1);
  }

  private static void enoughAtBothEnds() {
    FetchOrder zero = Check.of("fun a 10;block a 5 go 1 10;block a 5 ret 10;");
    check.answered(zero, "0 is enough", zero.enough(1), 0);
    String text = "fun a 9999;block a 5 if 2 0 else 1 9990;block a 5 ret #;block a 5 ret 9999;";
    FetchOrder one = Check.of(text.replace("#", "0"));
    check.answered(one, "100", one.enough(1), 100);
    FetchOrder last = Check.of(text.replace("#", "9899"));
    check.answered(last, "9,900", last.enough(1), 9900);
    last.count(1, 9900);
    check.answered(last, "it FALLS so", last.falls(1, 1), 1);
    last.count(1, 9800);
    check.answered(last, "it does not so", last.falls(1, 1), 0);
    FetchOrder none = Check.of(text.replace("#", "9900"));
    check.refused(none, "with none", none.enough(1), 3);
    none.count(1, 9999);
    check.answered(none, "though with 9,999", none.falls(1, 1), 1);
    check.refused(none, "with none", none.enough(1), 3);
  }

  private static void enoughOfNone() {
    FetchOrder x = Check.of("fun a 10;block a 5 if 0 5 else 1 10;block a 5 go 0 3;block a 5 ret 10;");
    check.refused(x, "from OUTSIDE", x.enough(0), 3);
    check.refused(x, "to itself", x.enough(1), 3);
    check.refused(x, "to the ENTRY", x.enough(3), 3);
    check.refused(x, "to OUTSIDE", x.enough(4), 3);
    check.refused(x, "no ARC", x.enough(5), 2);
    check.refused(x, "no ARC", x.enough(-1), 2);
  }

  private static void enoughLeavesAll() {
    for (String text : new String[] {DIAMOND, EdgeCallTest.UNLIKE, EdgeFlowTest.COLD_ENTRY, LookTest.TWO}) {
      FetchOrder x = Check.of(text);
      String before = Picture.of(x);
      for (int a = 0; a < x.many(2); a++) {
        x.enough(a);
        same("enough(" + a + ") in " + text, Picture.of(x), before);
      }
      check.answered(x, "many(10)", x.many(10), 1);
    }
  }

  // ---- a call that is refused changes nothing

  private static List<ToIntFunction<FetchOrder>> refusals() {
    List<ToIntFunction<FetchOrder>> all = new ArrayList<>();
    for (int no : new int[] {-1, 99, Integer.MIN_VALUE, Integer.MAX_VALUE}) {
      all.add(x -> x.load(no == 99 ? 901 : no));
      all.add(x -> x.many(no));
      all.add(x -> x.function(no, 0));
      all.add(x -> x.function(0, no));
      all.add(x -> x.block(no, 0));
      all.add(x -> x.block(0, no));
      all.add(x -> x.arc(no, 0));
      all.add(x -> x.arc(0, no));
      all.add(x -> x.weight(no, 0));
      all.add(x -> x.weight(0, no));
      all.add(x -> x.order(no, 0));
      all.add(x -> x.order(0, no));
      all.add(x -> x.place(no, 0, 0));
      all.add(x -> x.place(0, no, 0));
      all.add(x -> x.place(0, 0, no));
      all.add(x -> x.falls(no, 0));
      all.add(x -> x.falls(0, no));
      all.add(x -> x.cost(no, 0));
      all.add(x -> x.cost(0, no));
      all.add(x -> x.jumps(no, 0));
      all.add(x -> x.jumps(0, no));
      all.add(x -> x.least(no));
      all.add(x -> x.run(no, 0, 1, 0, 0));
      all.add(x -> x.run(0, no, 1, 0, 0));
      all.add(x -> x.run(0, 0, no == 99 ? 0 : no, 0, 0));
      all.add(x -> x.run(0, 0, 1, no == 99 ? 10000 : no, 0));
      all.add(x -> x.run(0, 0, 1, 0, no));
      all.add(x -> x.count(no, 1));
      all.add(x -> x.count(0, no == 99 ? 10000 : no));
      all.add(x -> x.set(no, 16));
      all.add(x -> x.set(0, no == 99 ? 10000 : no));
      all.add(x -> x.set(1, no == 99 ? 15 : no));
      all.add(x -> x.set(2, no));
      all.add(x -> x.take(no));
      all.add(x -> x.move(no, 0));
      all.add(x -> x.move(0, no));
      all.add(x -> x.moved(no, 0));
      all.add(x -> x.moved(0, no));
      all.add(x -> x.best(no));
      all.add(x -> x.enough(no));
    }
    all.add(x -> x.count(0, x.arc(0, 2)));
    all.add(x -> x.set(0, x.many(3)));
    all.add(x -> x.set(1, x.many(4)));
    all.add(x -> x.set(2, x.many(5)));
    all.add(x -> x.take(4));
    all.add(x -> x.move(x.order(4, 0), 0));
    all.add(x -> x.move(x.order(4, 8), 8));
    all.add(x -> x.move(8, 9));
    all.add(x -> x.order(4, 9));
    all.add(x -> x.enough(0));
    return all;
  }

  private static void refusedCallsChangeNothing() {
    for (ToIntFunction<FetchOrder> refusal : refusals()) {
      FetchOrder x = moved();
      FetchOrder twin = moved();
      check.due("it gives NONE", refusal.applyAsInt(x), -1);
      check.due("with a STATUS", x.status() > 0 ? 1 : 0, 1);
      same("nothing has changed", Picture.of(x), Picture.of(twin));
      check.due("the tape has what it had", x.feed(0, 0, 0, 0, 0), 60);
      for (int left = 4; left >= 0; left--) {
        check.answered(x, "undo()", x.undo(), left);
        twin.undo();
        same("and what can be undone neither", Picture.of(x), Picture.of(twin));
      }
      check.answered(x, "nor the bytes on the tape", x.load(24), 1);
    }
    faultyLoad();
    fullTape();
  }

  /** Five ACTS, and 40 bytes on the tape. */
  private static FetchOrder moved() {
    FetchOrder x = Check.of(EdgeCallTest.UNLIKE);
    x.move(8, 0);
    x.count(4, 30);
    x.set(1, 20);
    x.move(3, 5);
    Check.feed(x, "fun q 1;block q 5 ret 1;".getBytes());
    return x;
  }

  private static void faultyLoad() {
    FetchOrder x = moved();
    String before = beyondFault(Picture.of(x));
    check.refused(x, "load(23)", x.load(23), 9);
    same("nothing else has changed", beyondFault(Picture.of(x)), before);
    check.answered(x, "many(10)", x.many(10), 5);
    check.due("fault(0)", x.fault(0), 2);
    check.due("fault(1)", x.fault(1), 23);
    check.due("the tape is empty", x.feed(0, 0, 0, 0, 0), 20);
  }

  private static void fullTape() {
    FetchOrder x = moved();
    for (int i = 0; i < 43; i++) {
      x.feed(0, 0, 0, 0, 0);
    }
    check.due("full", x.feed(1, 2, 3, 4, 5), -1);
    check.due("full", x.feed(1, 2, 3, 4, 5), -1);
    check.answered(x, "as it was", x.load(24), 1);
  }
}
