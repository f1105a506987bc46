/** The edges of sections 2 and 3: FLOWS, CHAINS, CLUSTERS, and which of like ones comes first. */
public final class EdgeFlowTest {
  private static final Check check = new Check("EdgeFlowTest");

  /** HEAT of the ENTRY is -4: 1 comes from OUTSIDE, and the ARC from 1 to it has -5. */
  static final String COLD_ENTRY = "fun a 1;block a 5 go 2 8;block a 5 if 0 9 else 2 5;block a 5 ret 7;";

  public static void main(String[] args) {
    greatestCountFirst();
    likeCountsLeastArc();
    countsOfZero();
    neverToItself();
    whicheverWay();
    brokenFromMinusOneOn();
    blockThatNothingComesTo();
    ringWithoutOutside();
    flowsAboveCounts();
    heatIsAllThatComes();
    mendingBothWays();
    asMuchGoesAsComes();
    jumpsWithoutFlowsBelowZero();
    turnedByTheFirstArc();
    bytesOfJumps();
    addresses();
    chainsAboveZeroAlone();
    chainsGreatestFlowFirst();
    chainsLikeFlowsLeastArc();
    chainsOfAnotherOne();
    chainsNotTheEntry();
    chainsByGreatestSum();
    chainsSumsBelowZeroAsZero();
    chainsLikeSumsLeastBlock();
    numbersIfNotLess();
    bothWaysFall();
    coldAtMost();
    coldAllBlocksOfIt();
    coldNeverAnEntry();
    coldBehindAllAsTheyStood();
    weightBelowZeroAsZero();
    weightOfEachCall();
    callerGreatestLeast();
    clustersByHeatOfEntries();
    clustersOfUnlikeOnes();
    clustersOfPageAtMost();
    clusterBehindCluster();
    clustersStand();
    clustersLikeLeastFunction();
    startedByTrace();
    toItself();
    check.finish();
  }

  private static void flows(FetchOrder x, int... due) {
    check.due("many(2)", x.many(2), due.length);
    for (int a = 0; a < due.length; a++) {
      check.answered(x, "arc(" + a + ",3)", x.arc(a, 3), due[a]);
    }
  }

  private static void taken(FetchOrder x, int... due) {
    for (int a = 0; a < due.length; a++) {
      check.answered(x, "arc(" + a + ",4)", x.arc(a, 4), due[a]);
    }
  }

  private static void line(FetchOrder x, int how, int... due) {
    check.due("many(1)", x.many(1), due.length);
    for (int i = 0; i < due.length; i++) {
      check.answered(x, "order(" + how + "," + i + ")", x.order(how, i), due[i]);
    }
  }

  private static void places(FetchOrder x, int... due) {
    for (int f = 0; f < due.length; f++) {
      check.answered(x, "function(" + f + ",5)", x.function(f, 5), due[f]);
    }
  }

  // ---- FLOW

  private static void greatestCountFirst() {
    FetchOrder x = Check.of("fun a 5;block a 1 if 1 3 else 1 4;block a 1 ret 5;");
    taken(x, 1, 0, 0, 1);
    flows(x, 7, 3, 4, 7);
    FetchOrder y = Check.of("fun a 2;block a 1 if 1 3 else 1 4;block a 1 ret 1;");
    taken(y, 1, 0, 1, 0);
    flows(y, 1, 3, -2, 1);
  }

  private static void likeCountsLeastArc() {
    FetchOrder x = Check.of("fun a 5;block a 1 if 1 5 else 1 5;block a 1 ret 5;");
    taken(x, 1, 1, 0, 0);
    flows(x, 5, 0, 5, 5);
    // BLOCKS of two FUNCTIONS told by turns; of a ring of like ones the last ARC is left.
    FetchOrder y = Check.of("fun a 3;fun b 3;block b 1 go 1 3;block a 1 go 1 3;block b 1 go 2 3;block a 1 ret 3;"
        + "block b 1 ret 3;");
    taken(y, 1, 1, 1, 1, 1, 0, 0);
    flows(y, 3, 3, 3, 3, 3, 3, 3);
    FetchOrder z = Check.of("fun a 4;block a 1 if 1 6 else 2 6;block a 1 go 2 6;block a 1 ret 4;");
    taken(z, 1, 1, 1, 0, 0);
    flows(z, 4, 6, -2, 6, 4);
  }

  private static void countsOfZero() {
    FetchOrder x = Check.of("fun a 0;block a 1 if 1 0 else 0 0;block a 1 ret 0;");
    taken(x, 1, 1, 0, 0);
    flows(x, 0, 0, 0, 0);
    check.answered(x, "BROKEN", x.many(7), 0);
    check.answered(x, "mending", x.many(8), 0);
  }

  private static void neverToItself() {
    FetchOrder x = Check.of("fun a 1;block a 1 if 0 9999 else 1 2;block a 1 if 1 9999 else 1 9998;");
    taken(x, 1, 0, 1, 0, 0);
    flows(x, 0, 9999, 0, 9999, 9998);
    check.answered(x, "HEAT", x.block(0, 4), 9999);
    check.answered(x, "HEAT", x.block(1, 4), 19997);
  }

  private static void whicheverWay() {
    // 1 to 0 is taken though it goes back: 0 and 1 do not hang together yet.
    FetchOrder x = Check.of("fun a 4;block a 1 go 1 3;block a 1 if 0 8 else 1 2;");
    taken(x, 1, 0, 1, 0);
    flows(x, 0, 3, 3, 2);
  }

  private static void brokenFromMinusOneOn() {
    String text = "fun a 9;block a 5 go 1 1;block a 5 if 0 8 else 2 #;block a 5 ret #;";
    FetchOrder x = Check.of(text.replace('#', '1'));
    flows(x, 1, 1, 0, 1, 1);
    check.answered(x, "0 is not BROKEN", x.many(7), 0);
    FetchOrder y = Check.of(text.replace('#', '2'));
    flows(y, 2, 1, -1, 2, 2);
    check.answered(y, "-1 is", y.many(7), 1);
    check.answered(y, "mending", y.many(8), 7 + 9);
    // An ARC from OUTSIDE and one to OUTSIDE can be BROKEN, too.
    FetchOrder z = Check.of("fun a 9;block a 5 go 0 3;block a 5 ret 8;block a 5 if 1 7 else 0 5;");
    flows(z, -5, 3, -5, -5, 5);
    check.answered(z, "BROKEN", z.many(7), 3);
    check.answered(z, "mending", z.many(8), 14 + 13 + 12);
    check.answered(z, "HEAT", z.function(0, 3), 3);
    check.answered(z, "HEAT", z.block(1, 4), -5);
  }

  private static void blockThatNothingComesTo() {
    FetchOrder x = Check.of("fun a 5;block a 1 ret 5;block a 1 go 0 7;block a 1 ret 6;block a 1 if 0 4 else 2 3;");
    taken(x, 1, 0, 1, 1, 1, 0);
    flows(x, 8, 5, 0, 3, -3, 3);
    check.answered(x, "HEAT", x.block(0, 4), 5);
    check.answered(x, "HEAT", x.block(1, 4), 0);
    check.answered(x, "HEAT", x.block(3, 4), 0);
  }

  private static void ringWithoutOutside() {
    FetchOrder x = Check.of("fun a 2;block a 1 ret 2;block a 1 go 2 5;block a 1 go 3 4;block a 1 go 1 3;");
    taken(x, 1, 0, 1, 1, 0);
    flows(x, 2, 2, 3, 3, 3);
  }

  private static void flowsAboveCounts() {
    FetchOrder x = Check.of("fun a 9999;block a 1 go 1 9999;block a 1 if 0 9999 else 2 9999;"
        + "block a 1 if 0 9999 else 0 9999;");
    taken(x, 1, 1, 0, 1, 0, 0);
    flows(x, 0, 29997, 9999, 19998, 9999, 9999);
    check.answered(x, "HEAT", x.function(0, 3), 29997);
    check.answered(x, "mending", x.many(8), 9999 + 19998 + 9999);
    check.answered(x, "JUMPS", x.cost(0, 0), 29997);
  }

  private static void heatIsAllThatComes() {
    // To 2: -4 from 0, 5 from 1, and 3 from itself.
    FetchOrder x = Check.of("fun a 1;block a 5 go 2 8;block a 5 if 0 9 else 2 5;block a 5 if 3 7 else 2 3;block a 5 ret 6;");
    flows(x, 1, -4, -5, 5, 1, 3, 1);
    int[] heats = {-4, 0, 4, 1};
    for (int b = 0; b < 4; b++) {
      check.answered(x, "block(" + b + ",4)", x.block(b, 4), heats[b]);
    }
    check.answered(x, "function(0,3)", x.function(0, 3), -4);
  }

  private static void mendingBothWays() {
    // The first has 3 more than its COUNT, the last 7 less.
    FetchOrder x = Check.of("fun a 5;block a 1 if 1 3 else 1 5;block a 1 ret 15;");
    flows(x, 8, 3, 5, 8);
    check.answered(x, "mending", x.many(8), 3 + 7);
  }

  private static void asMuchGoesAsComes() {
    String[] texts = {EdgeCallTest.FULL, EdgeCallTest.UNLIKE, EdgeCallTest.MINUS_ONE, COLD_ENTRY, LookTest.TWO};
    for (String text : texts) {
      FetchOrder x = Check.of(text);
      int[] sum = new int[x.many(1)];
      for (int a = 0; a < x.many(2); a++) {
        if (x.arc(a, 0) >= 0) {
          sum[x.arc(a, 0)] -= x.arc(a, 3);
        }
        if (x.arc(a, 1) >= 0) {
          sum[x.arc(a, 1)] += x.arc(a, 3);
        }
        if (x.arc(a, 4) == 0) {
          check.due("not taken: its COUNT", x.arc(a, 3), x.arc(a, 2));
        }
      }
      for (int b = 0; b < sum.length; b++) {
        check.due("what comes less what goes, " + b, sum[b], 0);
      }
    }
  }

  // ---- JUMPS, bytes

  private static void jumpsWithoutFlowsBelowZero() {
    FetchOrder x = Check.of(COLD_ENTRY);
    flows(x, 1, -4, -5, 5, 1);
    check.answered(x, "JUMPS", x.cost(0, 0), 0);
    check.answered(x, "JUMPS", x.jumps(0, 0), 0);
    check.answered(x, "moved(2,0)", x.moved(2, 0), 5);
    check.answered(x, "least(0)", x.least(0), 0);
    check.refused(x, "best(0)", x.best(0), 3);
    check.answered(x, "move(1,0)", x.move(1, 0), 5);
    check.answered(x, "it FALLS, and saves nothing", x.falls(4, 2), 1);
  }

  private static void turnedByTheFirstArc() {
    FetchOrder x = Check.of("fun a 1;block a 1 if 1 1 else 2 1;block a 1 if 0 1 else 2 1;block a 1 if 3 1 else 3 1;"
        + "block a 1 go 4 1;block a 1 ret 1;");
    check.answered(x, "0 and 2, neither 1 nor the GO", x.cost(0, 2), 2);
    check.answered(x, "ARCS that FALL", x.cost(0, 5), 5);
    check.answered(x, "bytes", x.cost(0, 1), 5);
  }

  private static void bytesOfJumps() {
    // A RETURN takes none; a GO that does not FALL, an EITHER of which none does, 2.
    FetchOrder x = Check.of("fun a 1;block a 9 ret 1;block a 9 go 3 1;block a 9 if 4 1 else 0 1;block a 9 if 4 1 else 0 1;"
        + "block a 9 go 4 1;");
    int[] due = {9, 11, 11, 9, 11};
    int sum = 0;
    for (int b = 0; b < 5; b++) {
      check.answered(x, "place(0," + b + ",1)", x.place(0, b, 1), sum);
      check.answered(x, "place(0," + b + ",2)", x.place(0, b, 2), due[b]);
      sum += due[b];
    }
    check.answered(x, "all bytes", x.cost(0, 1), sum);
    // A FLOW of 0 or below makes no odds: it is where the BLOCKS stand that counts.
    FetchOrder y = Check.of("fun a 0;block a 9 go 1 0;block a 9 go 0 0;");
    check.answered(y, "it FALLS", y.place(0, 0, 2), 9);
    check.answered(y, "it does not", y.place(0, 1, 2), 11);
  }

  private static void addresses() {
    FetchOrder x = Check.of("fun a 1;fun b 1;block b 99 ret 1;block a 1 go 0 1;block a 99 ret 1;");
    line(x, 0, 1, 2, 0);
    int[] due = {102, 0, 3};
    for (int b = 0; b < 3; b++) {
      check.answered(x, "place(0," + b + ",1)", x.place(0, b, 1), due[b]);
    }
  }

  // ---- CHAINS

  private static void chains(String text, int chains, int... due) {
    FetchOrder x = Check.of(text);
    check.due(text, x.status(), 0);
    check.answered(x, "function(0,4)", x.function(0, 4), chains);
    line(x, 1, due);
  }

  private static void chainsAboveZeroAlone() {
    FetchOrder x = Check.of("fun a 10;block a 5 go 2 10;block a 5 ret 0;block a 5 ret 10;block a 5 go 4 0;block a 5 ret 0;");
    check.answered(x, "FLOW 0 makes no CHAIN", x.function(0, 4), 4);
    int[] numbers = {0, 1, 0, 2, 3};
    for (int b = 0; b < 5; b++) {
      check.answered(x, "block(" + b + ",5)", x.block(b, 5), numbers[b]);
    }
    FetchOrder y = Check.of("fun a 11;block a 5 go 2 11;block a 5 ret 0;block a 5 if 3 1 else 1 10;block a 5 ret 1;");
    check.answered(y, "FLOW 1 does", y.function(0, 4), 2);
    FetchOrder z = Check.of(EdgeCallTest.MINUS_ONE);
    check.answered(z, "FLOW -1 makes none", z.function(0, 4), 3);
    line(z, 1, 0, 2, 1, 3);
  }

  private static void chainsGreatestFlowFirst() {
    chains("fun a 100;block a 5 if 1 40 else 2 60;block a 5 ret 40;block a 5 ret 60;", 2, 0, 2, 1);
    chains("fun a 100;block a 5 if 2 60 else 1 40;block a 5 ret 40;block a 5 ret 60;", 2, 0, 2, 1);
    // Into 3 come 40 from 1 and 60 from 2: that of 2 is first, though 1 is less.
    chains("fun a 100;block a 5 if 1 40 else 2 60;block a 5 go 3 40;block a 5 go 3 60;block a 5 ret 100;", 2, 0, 2, 3, 1);
  }

  private static void chainsLikeFlowsLeastArc() {
    chains("fun a 100;block a 5 if 2 50 else 3 50;block a 5 ret 0;block a 5 ret 50;block a 5 ret 50;", 3, 0, 2, 3, 1);
    chains("fun a 100;block a 5 if 3 50 else 2 50;block a 5 ret 0;block a 5 ret 50;block a 5 ret 50;", 3, 0, 3, 2, 1);
    chains("fun a 100;block a 5 if 1 50 else 2 50;block a 5 go 4 50;block a 5 go 4 50;block a 5 ret 0;block a 5 ret 100;",
        3, 0, 1, 4, 2, 3);
  }

  private static void chainsOfAnotherOne() {
    // 90 go from 3 back to 2, the first of the same CHAIN.
    chains("fun a 10;block a 5 go 2 10;block a 5 ret 10;block a 5 go 3 100;block a 5 if 2 90 else 1 10;", 1, 0, 2, 3, 1);
    FetchOrder x = Check.of("fun a 10;block a 5 if 0 90 else 2 10;block a 5 ret 0;block a 5 if 2 80 else 3 10;block a 5 ret 10;");
    check.answered(x, "not behind itself", x.order(1, 1), 2);
    check.answered(x, "CHAINS", x.function(0, 4), 2);
  }

  private static void chainsNotTheEntry() {
    FetchOrder x = Check.of("fun a 10;block a 5 if 2 15 else 3 15;block a 5 ret 10;block a 5 go 4 15;block a 5 go 4 15;"
        + "block a 5 if 0 20 else 1 10;");
    flows(x, 10, 15, 15, 10, 15, 15, 20, 10);
    check.answered(x, "CHAINS", x.function(0, 4), 2);
    line(x, 1, 0, 2, 4, 1, 3);
    check.answered(x, "JUMPS", x.cost(1, 0), 50);
  }

  private static void chainsByGreatestSum() {
    // The greatest first: 50 of 7, 45 of 5 with 1, 20 of 3.
    chains("fun a 150;block a 5 if 2 105 else 5 45;block a 5 ret 30;block a 5 if 6 55 else 7 50;block a 5 ret 35;"
        + "block a 5 ret 35;block a 5 if 1 30 else 3 15;block a 5 if 4 35 else 3 20;block a 5 ret 50;",
        4, 0, 2, 6, 4, 7, 5, 1, 3);
    // The sum, not the greatest ARC: 4 has 15 and 15, 3 has 29.
    chains("fun a 100;block a 5 if 1 71 else 3 29;block a 5 if 2 56 else 4 15;block a 5 if 4 15 else 5 41;"
        + "block a 5 ret 29;block a 5 ret 30;block a 5 ret 41;", 3, 0, 1, 2, 5, 4, 3);
    // Both ways: to 3 with 5 come 20, from it go 10, to 2 come 25.
    chains("fun a 100;block a 5 if 1 75 else 2 25;block a 5 if 4 55 else 3 20;block a 5 ret 25;block a 5 if 4 10 else 5 10;"
        + "block a 5 ret 65;block a 5 ret 10;", 3, 0, 1, 4, 3, 5, 2);
    // With all that stand: to 5 come 10 of the first CHAIN and 10 of the second, to 4 come 15 of the second alone.
    chains("fun a 100;block a 5 if 1 55 else 2 45;block a 5 go 3 55;block a 5 if 6 35 else 5 10;block a 5 if 7 45 else 5 10;"
        + "block a 5 ret 15;block a 5 ret 20;block a 5 if 8 20 else 4 15;block a 5 ret 45;block a 5 ret 20;",
        4, 0, 1, 3, 7, 2, 6, 8, 5, 4);
    // ARCS to any BLOCK of it: to 4, the last of 3 2 4, come 30 and 30.
    chains("fun a 195;block a 5 if 1 150 else 3 45;block a 5 if 5 120 else 4 30;block a 5 go 4 45;block a 5 go 2 45;"
        + "block a 5 ret 105;block a 5 if 6 90 else 4 30;block a 5 ret 90;", 2, 0, 1, 5, 6, 3, 2, 4);
    // ARCS to the ENTRY, which never make a CHAIN: of 3 1 come 56, 21 and 9, of 5 come 44.
    chains("fun a 30;block a 5 if 4 51 else 5 44;block a 5 if 3 34 else 0 56;block a 5 go 6 30;block a 5 if 0 9 else 1 46;"
        + "block a 5 if 3 21 else 2 30;block a 5 if 1 44 else 5 25;block a 5 ret 30;", 3, 0, 4, 2, 6, 3, 1, 5);
  }

  private static void chainsSumsBelowZeroAsZero() {
    // 1 has -5 and 5, that is 5, and stands ahead of 2 with 4.
    FetchOrder x = Check.of("fun a 10;block a 5 go 3 80;block a 5 if 0 90 else 3 5;block a 5 ret 65;"
        + "block a 5 if 4 6 else 2 70;block a 5 ret 60;");
    flows(x, 10, 5, -5, 5, 4, 6, 4, 6);
    int[] numbers = {0, 1, 2, 0, 0};
    for (int b = 0; b < 5; b++) {
      check.answered(x, "block(" + b + ",5)", x.block(b, 5), numbers[b]);
    }
  }

  private static void chainsLikeSumsLeastBlock() {
    // 4 1 and 2 have sums of 0: 1 is less than 2, though 4 is first of its CHAIN.
    FetchOrder x = Check.of("fun a 10;block a 5 go 3 10;block a 5 if 4 4 else 4 3;block a 5 ret 0;block a 5 ret 10;"
        + "block a 5 go 1 7;");
    flows(x, 10, 10, 4, 3, 0, 10, 7);
    line(x, 1, 0, 3, 4, 1, 2);
    check.answered(x, "CHAINS", x.function(0, 4), 3);
    check.answered(x, "its number", x.block(4, 5), 1);
    check.answered(x, "its number", x.block(1, 5), 1);
    check.answered(x, "its number", x.block(2, 5), 2);
    // Like sums of 30 for 1 and 3.
    chains("fun a 90;block a 5 if 1 30 else 2 60;block a 5 ret 30;block a 5 if 3 30 else 4 30;block a 5 ret 30;"
        + "block a 5 ret 30;", 3, 0, 2, 3, 1, 4);
  }

  private static void numbersIfNotLess() {
    FetchOrder less = Check.of("fun a 21;block a 5 if 2 11 else 1 10;block a 5 ret 10;block a 5 ret 11;");
    line(less, 1, 0, 2, 1);
    check.answered(less, "one less", less.function(0, 4), 2);
    FetchOrder like = Check.of("fun a 20;block a 5 if 2 10 else 1 10;block a 5 ret 10;block a 5 ret 10;cold 9999;");
    line(like, 1, 0, 1, 2);
    check.answered(like, "as many", like.function(0, 4), 1);
    for (int b = 0; b < 3; b++) {
      check.answered(like, "block(" + b + ",5)", like.block(b, 5), 0);
      check.answered(like, "block(" + b + ",6)", like.block(b, 6), 0);
    }
    // By CHAINS 0 3 1 2 there would be 18 JUMPS, by numbers there are 10.
    FetchOrder more = Check.of("fun a 19;block a 5 if 3 10 else 1 9;block a 5 go 2 9;block a 5 go 3 9;block a 5 ret 19;");
    line(more, 1, 0, 1, 2, 3);
    check.answered(more, "more", more.function(0, 4), 1);
    check.answered(more, "JUMPS", more.cost(1, 0), 10);
  }

  /** Both ways of an EITHER go to the BLOCK right behind: both FALL. */
  private static void bothWaysFall() {
    FetchOrder x = Check.of("fun a 9;block a 5 if 2 5 else 2 4;block a 5 ret 0;block a 5 ret 9;");
    flows(x, 9, 5, 4, 0, 9);
    line(x, 1, 0, 2, 1);
    check.answered(x, "JUMPS", x.cost(0, 0), 9);
    check.answered(x, "JUMPS", x.cost(1, 0), 0);
    check.answered(x, "ARCS that FALL", x.cost(1, 5), 2);
    check.answered(x, "TURNED", x.cost(1, 2), 1);
    check.answered(x, "bytes", x.cost(1, 1), 15);
    check.answered(x, "least(0)", x.least(0), 0);
    check.answered(x, "moved(1,2)", x.moved(1, 2), 0);
    check.answered(x, "moved(0,2)", x.moved(0, 2), 9);
    // Of ARCS the 9 from 3 to 2 is greater than each 5 from 1 to 2, but by numbers both of these FALL: CHAINS are not less.
    FetchOrder y = Check.of("fun a 19;block a 5 if 1 10 else 3 9;block a 5 if 2 5 else 2 5;block a 5 ret 19;block a 5 go 2 9;");
    line(y, 1, 0, 1, 2, 3);
    check.answered(y, "CHAINS", y.function(0, 4), 1);
    check.answered(y, "JUMPS", y.cost(1, 0), 18);
    check.answered(y, "least(0)", y.least(0), 18);
  }

  // ---- COLD CHAINS

  private static void coldAtMost() {
    String text = "fun a 100;fun b 1;block a 5 if 1 6 else 2 94;block a 5 ret 6;block a 5 ret 94;block b 5 ret 1;cold #;";
    FetchOrder x = Check.of(text.replace("#", "6"));
    check.answered(x, "HEAT 6, COLD 6", x.block(1, 6), 1);
    line(x, 1, 0, 2, 3, 1);
    FetchOrder y = Check.of(text.replace("#", "5"));
    check.answered(y, "HEAT 6, COLD 5", y.block(1, 6), 0);
    line(y, 1, 0, 2, 1, 3);
    // HEAT 0 and COLD 0, and HEAT below 0.
    FetchOrder z = Check.of("fun a 100;block a 5 go 2 100;block a 5 ret 0;block a 5 ret 100;");
    check.answered(z, "HEAT 0, COLD 0", z.block(1, 6), 1);
    FetchOrder w = Check.of(EdgeCallTest.MINUS_ONE);
    check.answered(w, "HEAT -1, COLD 0", w.block(1, 6), 1);
    check.answered(w, "HEAT 5, COLD 0", w.block(2, 6), 0);
  }

  private static void coldAllBlocksOfIt() {
    // The CHAIN 1 4 has HEATS of 6 and 9.
    String text = "fun a 100;fun b 1;block a 5 if 1 6 else 2 94;block a 5 go 4 6;block a 5 if 3 91 else 4 3;block a 5 ret 91;"
        + "block a 5 ret 9;block b 5 ret 1;cold #;";
    for (int cold = 5; cold <= 9; cold++) {
      FetchOrder x = Check.of(text.replace("#", Integer.toString(cold)));
      check.answered(x, "HEAT of 1", x.block(1, 4), 6);
      check.answered(x, "HEAT of 4", x.block(4, 4), 9);
      check.answered(x, "one CHAIN", x.block(1, 5), x.block(4, 5));
      check.answered(x, "1 with COLD " + cold, x.block(1, 6), cold == 9 ? 1 : 0);
      check.answered(x, "4 with COLD " + cold, x.block(4, 6), cold == 9 ? 1 : 0);
    }
  }

  private static void coldNeverAnEntry() {
    FetchOrder x = Check.of(EdgeCallTest.UNLIKE);
    x.set(0, 9999);
    int[] due = {0, 1, 0, 0, 1, 0, 0, 1, 0};
    for (int b = 0; b < 9; b++) {
      check.answered(x, "block(" + b + ",6)", x.block(b, 6), due[b]);
    }
    line(x, 1, 0, 2, 3, 5, 6, 8, 1, 4, 7);
  }

  private static void coldBehindAllAsTheyStood() {
    // FUNCTION a has CHAINS 0 2 3, 4 (7), 1 (3): COLD ones stay in that row, and ahead of b's.
    FetchOrder x = Check.of("fun a 1000;fun b 100;block a 5 if 1 3 else 2 997;block a 5 ret 3;block a 5 if 3 990 else 4 7;"
        + "block a 5 ret 990;block a 5 ret 7;block b 5 if 1 9 else 2 91;block b 5 ret 9;block b 5 ret 91;cold 10;");
    line(x, 1, 0, 2, 3, 5, 7, 4, 1, 6);
    x.set(0, 8);
    line(x, 1, 0, 2, 3, 5, 7, 6, 4, 1);
    x.set(0, 6);
    line(x, 1, 0, 2, 3, 4, 5, 7, 6, 1);
    x.set(0, 2);
    line(x, 1, 0, 2, 3, 4, 1, 5, 7, 6);
  }

  // ---- WEIGHT, CLUSTERS

  private static void weightBelowZeroAsZero() {
    String text = EdgeCallTest.MINUS_ONE.replace("fun a 4;", "fun a 4;fun b 3;").replace("block a 5 go", "block a 5 call b go")
        .replace("block a 5 ret 7", "block a 5 call b ret 7") + "block b 5 ret 3;";
    FetchOrder x = Check.of(text);
    check.answered(x, "HEAT of 1", x.block(1, 4), -1);
    check.answered(x, "HEAT of 2", x.block(2, 4), 5);
    check.answered(x, "weight(0,1)", x.weight(0, 1), 5);
    check.answered(x, "weight(1,0)", x.weight(1, 0), 0);
    check.answered(x, "CALLER", x.function(1, 6), 0);
  }

  private static void weightOfEachCall() {
    FetchOrder x = Check.of("fun a 4;fun b 1;block a 5 call b call b go 1 4;block a 5 call a call b ret 4;block b 5 ret 1;");
    check.answered(x, "weight(0,1)", x.weight(0, 1), 12);
    check.answered(x, "weight(0,0)", x.weight(0, 0), 4);
    check.answered(x, "weight(1,1)", x.weight(1, 1), 0);
    check.answered(x, "no CALLER but another one", x.function(0, 6), -1);
  }

  private static void callerGreatestLeast() {
    String text = "fun a #;fun b 5;fun c @;fun d 1;block a 5 call d ret #;block b 5 call d ret 5;block c 5 call d ret @;"
        + "block d 5 call d ret 1;";
    int[][] due = {{5, 5, 0}, {4, 5, 1}, {4, 6, 2}, {6, 6, 0}, {0, 0, 1}};
    for (int[] d : due) {
      FetchOrder x = Check.of(text.replace("#", "" + d[0]).replace("@", "" + d[1]));
      check.answered(x, "CALLER with " + d[0] + " and " + d[1], x.function(3, 6), d[2]);
    }
    FetchOrder x = Check.of(text.replace("#", "0").replace("@", "0").replace("fun b 5", "fun b 0").replace("ret 5", "ret 0"));
    check.answered(x, "WEIGHTS of 0 are none", x.function(3, 6), -1);
    check.answered(x, "CLUSTERS", x.many(9), 4);
  }

  private static void clustersByHeatOfEntries() {
    String text = "fun a 10;fun b #;fun c @;block a 20 call b call c ret 10;block b 20 ret #;block c 20 ret @;page 40;";
    FetchOrder like = Check.of(text.replace("#", "10").replace("@", "10"));
    check.answered(like, "CLUSTERS", like.many(9), 2);
    places(like, 0, 1, 2);
    FetchOrder more = Check.of(text.replace("#", "10").replace("@", "11"));
    places(more, 0, 2, 1);
    check.answered(more, "CLUSTERS", more.many(9), 2);
    FetchOrder less = Check.of(text.replace("#", "11").replace("@", "10"));
    places(less, 0, 1, 2);
  }

  private static void clustersOfUnlikeOnes() {
    // b and c call one another: the hotter comes behind the other, which then hangs together with it.
    String text = "fun a 1;fun b #;fun c 9;block a 5 ret 1;block b 5 call c ret #;block c 5 call b ret 9;";
    FetchOrder x = Check.of(text.replace('#', '9'));
    check.answered(x, "CLUSTERS", x.many(9), 2);
    places(x, 2, 1, 0);
    FetchOrder y = Check.of(text.replace('#', '8'));
    check.answered(y, "CLUSTERS", y.many(9), 2);
    places(y, 2, 0, 1);
  }

  private static void clustersOfPageAtMost() {
    // SIZES are 40 together; bytes of jumps, four here, do not count.
    String text = "fun a 5;fun b 5;block a 20 call b go 0 5;block b 20 go 0 5;page #;";
    FetchOrder x = Check.of(text.replace("#", "40"));
    check.answered(x, "bytes", x.cost(0, 1), 44);
    check.answered(x, "40 of 40", x.many(9), 1);
    FetchOrder y = Check.of(text.replace("#", "39"));
    check.answered(y, "40 of 39", y.many(9), 2);
    y.set(1, 40);
    check.answered(y, "set(1,40)", y.many(9), 1);
    // All of both CLUSTERS counts: a and b are 20, and c 10 more.
    FetchOrder z = Check.of("fun a 9;fun b 8;fun c 7;block a 10 call b ret 9;block b 10 call c ret 8;block c 10 ret 7;page 29;");
    check.answered(z, "20 and 10 of 29", z.many(9), 2);
    z.set(1, 30);
    check.answered(z, "20 and 10 of 30", z.many(9), 1);
    // Here c is behind b already when b comes to a.
    FetchOrder w = Check.of("fun a 6;fun b 8;fun c 9;block a 10 call b ret 6;block b 10 call c ret 8;block c 10 ret 9;page 29;");
    check.answered(w, "10 and 20 of 29", w.many(9), 2);
    places(w, 2, 0, 1);
    w.set(1, 30);
    check.answered(w, "10 and 20 of 30", w.many(9), 1);
    places(w, 0, 1, 2);
  }

  private static void clusterBehindCluster() {
    // c comes behind b, then d behind a, then b with c behind a with d.
    FetchOrder x = Check.of("fun a 1;fun b 5;fun c 9;fun d 7;block a 5 call b call d ret 1;block b 5 call c ret 5;"
        + "block c 5 ret 9;block d 5 ret 7;");
    check.answered(x, "CLUSTERS", x.many(9), 1);
    places(x, 0, 2, 3, 1);
    line(x, 2, 0, 3, 1, 2);
  }

  private static void clustersStand() {
    // 10 by 30 and 1 by 3 are 333 both; 2 by 5 is 400; HEAT 0 is 0, HEAT -4 less.
    FetchOrder x = Check.of("fun a 10;fun b 1;fun c 2;block a 30 ret 10;block b 3 ret 1;block c 5 ret 2;");
    places(x, 1, 2, 0);
    FetchOrder y = Check.of(COLD_ENTRY.replace("fun a 1;", "fun a 1;fun b 0;fun c 1;") + "block b 99 ret 0;block c 99 ret 1;");
    check.answered(y, "HEAT", y.function(0, 3), -4);
    places(y, 2, 1, 0);
    // 1,000 by 501 is 1, by 500 it is 2.
    String text = "fun a 1;fun b 1;block b 99 ret 1;" + "block b 99 ret 0;".repeat(4) + "block b # ret 0;"
        + "block a 99 ret 1;" + "block a 99 ret 0;".repeat(4) + "block a 6 ret 0;";
    FetchOrder like = Check.of(text.replace("#", "6"));
    check.answered(like, "SIZES", like.function(0, 2), 501);
    places(like, 0, 1);
    FetchOrder cut = Check.of(text.replace("#", "5"));
    places(cut, 1, 0);
    // 97 by 98 is 989.8, 98 by 99 is 989.9: cut they are alike.
    FetchOrder near = Check.of("fun a 97;fun b 98;block a 98 ret 97;block b 99 ret 98;");
    places(near, 0, 1);
    // The least SIZES there are: 1 by 1 is 1,000, 1 by 2 is 500.
    FetchOrder one = Check.of("fun a 1;fun b 1;block a 2 ret 1;block b 1 ret 1;");
    places(one, 1, 0);
  }

  private static void clustersLikeLeastFunction() {
    // c with a behind it has 20 by 20, b has 10 by 10: a is the least, though c stands first.
    FetchOrder x = Check.of("fun a 10;fun b 10;fun c 10;block a 10 ret 10;block b 10 ret 10;block c 10 call a ret 10;");
    check.answered(x, "CLUSTERS", x.many(9), 2);
    places(x, 1, 2, 0);
    line(x, 2, 2, 0, 1);
  }

  private static void startedByTrace() {
    String text = "fun a 1;fun b 9;fun c 5;fun d 7;block a 5 ret 1;block b 5 ret 9;block c 5 ret 5;block d 5 ret 7;";
    FetchOrder none = Check.of(text);
    line(none, 2, 1, 3, 2, 0);
    line(none, 3, 1, 3, 2, 0);
    FetchOrder some = Check.of(text + "trace c a;");
    line(some, 2, 1, 3, 2, 0);
    line(some, 3, 2, 0, 1, 3);
    FetchOrder all = Check.of(text + "trace d c b a;");
    line(all, 3, 3, 2, 1, 0);
  }

  // ---- an ARC from a BLOCK to itself

  private static void toItself() {
    FetchOrder x = Check.of("fun a 7;block a 5 go 0 9;trace a;");
    taken(x, 1, 0);
    flows(x, 0, 9);
    check.answered(x, "HEAT", x.block(0, 4), 9);
    for (int how = 0; how < 5; how++) {
      check.answered(x, "it never FALLS", x.falls(how, 1), 0);
      check.answered(x, "JUMPS", x.cost(how, 0), 9);
      check.answered(x, "bytes", x.cost(how, 1), 7);
      check.answered(x, "run's steps", x.run(how, 0, 200, 0, 0), 200);
      check.answered(x, "run's JUMPS", x.run(how, 0, 200, 0, 2), 200);
    }
    check.answered(x, "least(0)", x.least(0), 9);
    check.refused(x, "enough(1)", x.enough(1), 3);
    check.refused(x, "best(0)", x.best(0), 3);
    FetchOrder y = Check.of("fun a 7;block a 5 if 0 3 else 0 4;");
    flows(y, 0, 3, 4);
    check.answered(y, "HEAT", y.block(0, 4), 7);
    check.answered(y, "JUMPS", y.cost(0, 0), 7);
    check.answered(y, "TURNED", y.cost(0, 2), 0);
    check.answered(y, "bytes", y.cost(0, 1), 7);
    // One way to itself, the other to the BLOCK behind: that FALLS, so no bytes more.
    FetchOrder z = Check.of("fun a 7;block a 5 if 0 3 else 1 7;block a 5 ret 7;");
    check.answered(z, "JUMPS", z.cost(0, 0), 3);
    check.answered(z, "bytes", z.cost(0, 1), 10);
    check.answered(z, "TURNED", z.cost(0, 2), 0);
    check.answered(z, "least(0)", z.least(0), 3);
    check.answered(z, "moved(0,1)", z.moved(0, 1), 10);
  }
}
