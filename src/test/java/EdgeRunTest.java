/** The edges of section 4: PAGES, TOUCHED, RUN. */
public final class EdgeRunTest {
  private static final Check check = new Check("EdgeRunTest");

  public static void main(String[] args) {
    pagesOfABlock();
    pagesOfSixteenAndMore();
    theMostPages();
    touchedAboveCold();
    touchedOfTraceAlone();
    touchedEachPageOnce();
    stepsUpToSoMany();
    endsAsTheFirstReturns();
    stepIsPagesFirst();
    eightUnderWay();
    callsThenTheEnd();
    goThatFallsIsNoJump();
    eitherByDraws();
    drawsOfOneWay();
    withoutADraw();
    drawsBelowZeroAsZero();
    drawsOfLargeFlows();
    seedsAtTheEnds();
    keptAtTheEnds();
    keptAreTheLatestUsed();
    pagesOneByOne();
    eachRunByItself();
    eachOrderByItself();
    check.finish();
  }

  private static void run(FetchOrder x, int how, int function, int steps, int seed, int... due) {
    for (int what = 0; what < 4; what++) {
      check.answered(x, "run(" + how + "," + function + "," + steps + "," + seed + "," + what + ")",
          x.run(how, function, steps, seed, what), due[what]);
    }
  }

  // ---- PAGES

  private static void pagesOfABlock() {
    // Bytes 0 to 15, 16 to 31, 32 to 32, 33 to 47, 48 to 64: PAGES 0, 1, 2, 2, 3 and 4.
    FetchOrder x = Check.of("fun a 1;page 16;block a 16 ret 1;block a 16 ret 1;block a 1 ret 1;block a 15 ret 1;block a 17 ret 1;");
    int[][] due = {{0, 0}, {1, 1}, {2, 2}, {2, 2}, {3, 4}};
    for (int b = 0; b < 5; b++) {
      check.answered(x, "place(0," + b + ",3)", x.place(0, b, 3), due[b][0]);
      check.answered(x, "place(0," + b + ",4)", x.place(0, b, 4), due[b][1]);
    }
    check.answered(x, "PAGES", x.cost(0, 3), 5);
    x.set(1, 17);
    check.answered(x, "byte 16 is still of PAGE 0", x.place(0, 1, 3), 0);
    check.answered(x, "byte 31 is of PAGE 1", x.place(0, 1, 4), 1);
    check.answered(x, "65 bytes by 17", x.cost(0, 3), 4);
    // The 2 bytes of a jump are of the BLOCK: byte 16 is its last.
    FetchOrder y = Check.of("fun a 1;page 16;block a 15 go 0 1;");
    check.answered(y, "its last PAGE", y.place(0, 0, 4), 1);
    check.answered(y, "PAGES", y.cost(0, 3), 2);
    FetchOrder z = Check.of("fun a 1;page 16;block a 14 go 0 1;");
    check.answered(z, "its last PAGE", z.place(0, 0, 4), 0);
    check.answered(z, "PAGES", z.cost(0, 3), 1);
  }

  private static void pagesOfSixteenAndMore() {
    FetchOrder x = Check.of("fun a 1;page 16;block a 99 ret 1;block a 99 ret 1;");
    check.answered(x, "0 to 98", x.place(0, 0, 4), 6);
    check.answered(x, "99 to 197", x.place(0, 1, 3), 6);
    check.answered(x, "99 to 197", x.place(0, 1, 4), 12);
    check.answered(x, "PAGES", x.cost(0, 3), 13);
    x.set(1, 512);
    check.answered(x, "PAGES of 512", x.cost(0, 3), 1);
    FetchOrder y = Check.of("fun a 1;page 512;" + "block a 99 ret 1;".repeat(5) + "block a 17 ret 1;");
    check.answered(y, "512 bytes", y.cost(0, 3), 1);
    check.answered(y, "byte 511", y.place(0, 5, 4), 0);
    FetchOrder z = Check.of("fun a 1;page 512;" + "block a 99 ret 1;".repeat(5) + "block a 18 ret 1;");
    check.answered(z, "513 bytes", z.cost(0, 3), 2);
    check.answered(z, "byte 512", z.place(0, 5, 4), 1);
  }

  /** 40 BLOCKS of 99 bytes, each with a jump to the third behind it: 4,040 bytes, PAGES of 16. */
  private static void theMostPages() {
    StringBuilder t = new StringBuilder("fun a1;page 16;kept 16;trace a;");
    for (int b = 0; b < 40; b++) {
      t.append("block a99go").append((b + 3) % 40).append(" 1;");
    }
    FetchOrder x = Check.of(t.toString());
    check.answered(x, "bytes", x.cost(0, 1), 4040);
    check.answered(x, "PAGES", x.cost(0, 3), 253);
    check.answered(x, "TOUCHED", x.cost(0, 4), 253);
    check.answered(x, "the last one", x.place(0, 39, 4), 252);
    // 37 of 39 borders are within a PAGE, so that 290 PAGES are used each time round, none of them KEPT so long.
    run(x, 0, 0, 40, 0, 40, 290, 40, 253);
    run(x, 0, 0, 200, 0, 200, 1450, 200, 253);
  }

  // ---- TOUCHED

  private static void touchedAboveCold() {
    String text = "fun a 9;page 16;block a 16 if 1 4 else 2 5;block a 16 ret 4;block a 16 ret 5;trace a;cold #;";
    int[] due = {3, 3, 3, 3, 2, 1, 1};
    for (int cold = 0; cold < 7; cold++) {
      FetchOrder x = Check.of(text.replace("#", "" + cold));
      check.answered(x, "TOUCHED with COLD " + cold, x.cost(0, 4), due[cold]);
    }
    // HEAT 0 is not above COLD 0, HEAT of the ENTRY makes no odds.
    FetchOrder x = Check.of(EdgeFlowTest.COLD_ENTRY.replace("a 5 ", "a 16 ") + "page 16;trace a;");
    int[] heats = {-4, 0, 1};
    for (int b = 0; b < 3; b++) {
      check.answered(x, "block(" + b + ",4)", x.block(b, 4), heats[b]);
    }
    check.answered(x, "bytes", x.cost(0, 1), 16 + 2 + 16 + 16);
    // 0 is of PAGES 0 and 1, 2 of PAGES 2 and 3.
    check.answered(x, "TOUCHED", x.cost(0, 4), 4);
  }

  private static void touchedOfTraceAlone() {
    String text = "fun a 9;fun b 9;fun c 9;page 16;block a 16 ret 9;block b 16 ret 9;block c 16 ret 9;";
    String[] traces = {"", "trace b;", "trace b a;", "trace a b c;"};
    for (int n = 0; n < 4; n++) {
      check.due("TOUCHED with " + traces[n], Check.of(text + traces[n]).cost(0, 4), n);
    }
  }

  private static void touchedEachPageOnce() {
    FetchOrder x = Check.of("fun a 9;page 16;block a 8 if 1 4 else 2 5;block a 8 ret 4;block a 8 ret 5;trace a;");
    check.answered(x, "0 and 1 are of PAGE 0", x.cost(0, 4), 2);
    check.answered(x, "PAGES", x.cost(0, 3), 2);
    FetchOrder y = Check.of("fun a 9;page 16;block a 99 ret 9;trace a;");
    check.answered(y, "all PAGES of a BLOCK", y.cost(0, 4), 7);
  }

  // ---- RUN

  private static void stepsUpToSoMany() {
    FetchOrder x = Check.of("fun a 1;page 16;block a 16 go 1 1;block a 16 go 2 1;block a 16 ret 1;");
    run(x, 0, 0, 1, 0, 1, 1, 0, 1);
    run(x, 0, 0, 2, 0, 2, 2, 0, 2);
    run(x, 0, 0, 3, 0, 3, 3, 0, 3);
    run(x, 0, 0, 4, 0, 3, 3, 0, 3);
    run(x, 0, 0, 200, 0, 3, 3, 0, 3);
    FetchOrder y = Check.of("fun a 1;block a 5 go 0 1;");
    run(y, 0, 0, 199, 0, 199, 1, 199, 1);
    run(y, 0, 0, 200, 0, 200, 1, 200, 1);
  }

  private static void endsAsTheFirstReturns() {
    FetchOrder x = Check.of("fun a 1;fun b 1;block a 5 call b go 1 1;block a 5 call b ret 1;block b 5 go 1 1;block b 5 ret 1;");
    run(x, 0, 0, 200, 0, 6, 1, 0, 1);
    run(x, 0, 1, 200, 0, 2, 1, 0, 1);
    // The last BLOCK's CALLS come ahead of its RETURN.
    FetchOrder y = Check.of("fun a 1;fun b 1;block a 5 call b call b ret 1;block b 5 ret 1;");
    run(y, 0, 0, 200, 0, 3, 1, 0, 1);
  }

  private static void stepIsPagesFirst() {
    // A step's PAGES are used ahead of its CALLS: 0 is missed, then 1, and 0 again with one KEPT.
    FetchOrder x = Check.of("fun a 1;fun b 1;page 16;kept 1;block a 8 call b go 1 1;block a 8 ret 1;block b 16 ret 1;");
    run(x, 0, 0, 1, 0, 1, 1, 0, 1);
    run(x, 0, 0, 2, 0, 2, 2, 0, 2);
    run(x, 0, 0, 3, 0, 3, 3, 0, 2);
  }

  private static void eightUnderWay() {
    // a calls b, b calls c, .. g calls h: eight, and what h calls is not called.
    StringBuilder t = new StringBuilder();
    for (char f = 'a'; f <= 'h'; f++) {
      t.append("fun ").append(f).append(" 1;");
    }
    for (char f = 'a'; f <= 'h'; f++) {
      t.append("block ").append(f).append(" 5 call ").append(f == 'h' ? 'a' : (char) (f + 1)).append(" ret 1;");
    }
    FetchOrder x = Check.of(t.toString());
    for (int f = 0; f < 8; f++) {
      run(x, 0, f, 200, 0, 8, 1, 0, 1);
    }
    FetchOrder y = Check.of(t.toString().replace("h 5 call a", "h 5"));
    for (int f = 0; f < 8; f++) {
      run(y, 0, f, 200, 0, 8 - f, 1, 0, 1);
    }
    // Both CALLS of the eighth are passed over, its END is not: 7 jumps back up the way.
    FetchOrder z = Check.of("fun a 1;fun b 1;block a 5 call a go 2 1;block a 5 ret 1;block a 5 go 1 1;block b 5 ret 1;");
    run(z, 0, 0, 8, 0, 8, 1, 1, 1);
    run(z, 0, 0, 200, 0, 24, 1, 16, 1);
    FetchOrder w = Check.of("fun a 1;block a 5 call a call a ret 1;");
    run(w, 0, 0, 8, 0, 8, 1, 0, 1);
    run(w, 0, 0, 200, 0, 200, 1, 0, 1);
    // A FUNCTION that has RETURNED is not under way any more.
    FetchOrder v = Check.of("fun a 1;fun b 1;block a 5 call b call b go 1 1;block a 5 call b call b go 2 1;"
        + "block a 5 call b call b go 3 1;block a 5 call b call b go 4 1;block a 5 call b call b ret 1;block b 5 ret 1;");
    run(v, 0, 0, 200, 0, 15, 1, 0, 1);
  }

  private static void callsThenTheEnd() {
    // The first CALL, then the second, then the END, each on a PAGE of its own.
    FetchOrder x = Check.of("fun a 1;fun b 1;fun c 1;page 16;kept 1;block a 14 call c call b go 0 1;block b 16 ret 1;"
        + "block c 16 ret 1;");
    run(x, 0, 0, 2, 0, 2, 2, 0, 2);
    run(x, 0, 0, 3, 0, 3, 3, 1, 3);
    x.set(2, 2);
    run(x, 0, 0, 4, 0, 4, 4, 1, 3);
    // c is used after a, so of two KEPT it is there when c comes; b is not.
    FetchOrder y = Check.of("fun a 1;fun b 1;fun c 1;page 16;kept 2;block a 14 call c call c go 0 1;block b 16 ret 1;"
        + "block c 16 ret 1;");
    run(y, 0, 0, 6, 0, 6, 2, 2, 2);
    // Of two CALLS the first comes first: b RETURNS, c jumps on the spot.
    String calls = "fun a 1;fun b 1;fun c 1;block a 5 call # call @ ret 1;block b 5 ret 1;block c 5 go 0 1;";
    FetchOrder z = Check.of(calls.replace('#', 'b').replace('@', 'c'));
    run(z, 0, 0, 2, 0, 2, 1, 0, 1);
    run(z, 0, 0, 5, 0, 5, 1, 3, 1);
    FetchOrder w = Check.of(calls.replace('#', 'c').replace('@', 'b'));
    run(w, 0, 0, 2, 0, 2, 1, 1, 1);
    run(w, 0, 0, 5, 0, 5, 1, 4, 1);
  }

  private static void goThatFallsIsNoJump() {
    FetchOrder x = Check.of("fun a 1;block a 5 go 1 1;block a 5 go 3 1;block a 5 ret 1;block a 5 go 2 1;");
    run(x, 0, 0, 200, 0, 4, 1, 2, 1);
    run(x, 1, 0, 200, 0, 4, 1, 0, 1);
    x.move(0, 3);
    run(x, 4, 0, 200, 0, 4, 1, 3, 1);
  }

  private static void eitherByDraws() {
    // Seed 0 draws 74: of 100 it is below 75, not below 74.
    String text = "fun a 100;block a 5 if 1 # else 2 @;block a 5 ret #;block a 5 ret @;";
    FetchOrder x = Check.of(text.replace("#", "75").replace("@", "25"));
    run(x, 0, 0, 9, 0, 2, 1, 0, 1);
    FetchOrder y = Check.of(text.replace("#", "74").replace("@", "26"));
    run(y, 0, 0, 9, 0, 2, 1, 1, 1);
    // By 74 nothing is left of 74, by 75 all of it.
    FetchOrder z = Check.of(text.replace("fun a 100", "fun a 74").replace("#", "1").replace("@", "73"));
    run(z, 0, 0, 9, 0, 2, 1, 0, 1);
    FetchOrder w = Check.of(text.replace("fun a 100", "fun a 75").replace("#", "74").replace("@", "1"));
    run(w, 0, 0, 9, 0, 2, 1, 1, 1);
    // An EITHER's way that does not FALL is a JUMP, the first or the second.
    FetchOrder v = Check.of("fun a 100;block a 5 if 2 75 else 1 25;block a 5 ret 25;block a 5 ret 75;");
    run(v, 0, 0, 9, 0, 2, 1, 1, 1);
    run(v, 1, 0, 9, 0, 2, 1, 0, 1);
  }

  private static void drawsOfOneWay() {
    // One way has all the FLOW: it is gone, but it is drawn for, so that the next draw is the second.
    // Seed 0 draws 74, then 5,624: of 100 that is 74, and 24.
    String text = "fun a 100;block a 5 if 1 # else 2 @;block a 5 go 3 #;block a 5 go 3 @;block a 5 if 4 50 else 5 50;"
        + "block a 5 ret 50;block a 5 ret 50;";
    FetchOrder x = Check.of(text.replace("#", "100").replace("@", "0"));
    check.answered(x, "FLOW", x.arc(1, 3), 100);
    // 0 1 3 4: from 1 to 3 is a JUMP, from 3 to 4 none; the other way from 3 would be one more.
    run(x, 0, 0, 9, 0, 4, 1, 1, 1);
    FetchOrder y = Check.of(text.replace("#", "0").replace("@", "100"));
    check.answered(y, "FLOW", y.arc(2, 3), 100);
    run(y, 0, 0, 9, 0, 4, 1, 1, 1);
    // FLOWS of 0 and 1: by 1, of which nothing is ever left, and so not below 0.
    FetchOrder z = Check.of("fun a 1;block a 5 if 1 0 else 2 1;block a 5 ret 0;block a 5 ret 1;");
    FetchOrder w = Check.of("fun a 1;block a 5 if 1 1 else 2 0;block a 5 ret 1;block a 5 ret 0;");
    for (int seed = 0; seed < 5; seed++) {
      run(z, 0, 0, 9, seed, 2, 1, 1, 1);
      run(w, 0, 0, 9, seed, 2, 1, 0, 1);
    }
  }

  private static void withoutADraw() {
    // Both are 0: the first, and the next draw is still 74 of 100, not below 50.
    FetchOrder x = Check.of("fun a 0;fun b 100;block a 5 call b if 1 0 else 2 0;block a 5 call b ret 0;block a 5 ret 0;"
        + "block b 5 if 1 50 else 2 50;block b 5 ret 50;block b 5 ret 50;");
    // b's first time draws 74, its second time 24: if a had drawn between them, that would be 5,624 and so on.
    run(x, 0, 0, 3, 0, 3, 1, 1, 1);
    run(x, 0, 0, 9, 0, 6, 1, 1, 1);
    // -400 and 0 are as 0 and 0: to 2 without a draw, then 74 of 100, so on to 4.
    FetchOrder y = Check.of("fun a 100;block a 5 if 2 800 else 1 0;block a 5 if 0 900 else 2 500;block a 5 if 3 700 else 4 50;"
        + "block a 5 ret 650;block a 5 ret 600;");
    int[] flows = {100, -400, 0, -500, 500, 50, 50, 50, 50};
    for (int a = 0; a < 9; a++) {
      check.answered(y, "arc(" + a + ",3)", y.arc(a, 3), flows[a]);
    }
    run(y, 0, 0, 9, 0, 3, 1, 2, 1);
    // Seed 1 draws 149, of 100 that is 49: on to 3.
    run(y, 0, 0, 9, 1, 3, 1, 1, 1);
  }

  private static void drawsBelowZeroAsZero() {
    // FLOWS -1 and 5: by 5, never the first.
    FetchOrder x = Check.of(EdgeCallTest.MINUS_ONE);
    check.answered(x, "FLOW", x.arc(1, 3), -1);
    check.answered(x, "FLOW", x.arc(2, 3), 5);
    for (int seed = 0; seed < 12; seed++) {
      run(x, 0, 0, 9, seed, 2, 1, 1, 1);
      run(x, 1, 0, 9, seed, 2, 1, 0, 1);
    }
  }

  private static void drawsOfLargeFlows() {
    // 0 to 1 has a FLOW of 29,997, of which 19,998 go on from 1 to 2; 74 is far below either.
    FetchOrder x = Check.of("fun a 9999;block a 1 go 1 9999;block a 1 if 2 9999 else 0 9999;block a 1 if 0 9999 else 0 9999;");
    check.answered(x, "FLOW", x.arc(2, 3), 19998);
    check.answered(x, "FLOW", x.arc(3, 3), 9999);
    run(x, 0, 0, 2, 0, 2, 1, 0, 1);
    // Seed 391 draws 29,399: not below 19,998 of 29,997.
    run(x, 0, 0, 2, 391, 2, 1, 1, 1);
    // Seed 9,999 draws 29,092 (749,999 less 11 times 65,537), seed 873 draws 12 (65,549 less 65,537).
    run(x, 0, 0, 2, 9999, 2, 1, 1, 1);
    run(x, 0, 0, 2, 873, 2, 1, 0, 1);
  }

  private static void seedsAtTheEnds() {
    // Seed 0 draws 74, seed 9,999 draws 29,092: of 100 that is 74 and 92.
    FetchOrder x = Check.of("fun a 100;block a 5 if 1 90 else 2 10;block a 5 ret 90;block a 5 ret 10;");
    run(x, 0, 0, 9, 0, 2, 1, 0, 1);
    run(x, 0, 0, 9, 9999, 2, 1, 1, 1);
    // Seed 873 is the first of which more than 65,537 comes: 12 is left of 65,549; of 13 it is not below 12.
    FetchOrder y = Check.of("fun a 13;block a 5 if 1 12 else 2 1;block a 5 ret 12;block a 5 ret 1;");
    run(y, 0, 0, 9, 873, 2, 1, 1, 1);
    // Seed 872 draws 65,474, of which by 13 6 is left.
    run(y, 0, 0, 9, 872, 2, 1, 0, 1);
  }

  private static void keptAtTheEnds() {
    String ring = "fun a 1;page 16;kept #;block a 16 go 1 1;block a 16 go 2 1;block a 14 go 0 1;";
    FetchOrder one = Check.of(ring.replace("#", "1"));
    run(one, 0, 0, 6, 0, 6, 6, 2, 3);
    FetchOrder two = Check.of(ring.replace("#", "2"));
    run(two, 0, 0, 6, 0, 6, 6, 2, 3);
    FetchOrder three = Check.of(ring.replace("#", "3"));
    run(three, 0, 0, 6, 0, 6, 3, 2, 3);
    // 16 PAGES in a ring, with 16 and with 15 KEPT; and 17 with 16.
    String wide = "fun a 1;page 16;kept #;block a 96 go 1 1;block a 96 go 2 1;block a @ go 0 1;";
    FetchOrder fits = Check.of(wide.replace("#", "16").replace("@", "62"));
    run(fits, 0, 0, 6, 0, 6, 16, 2, 16);
    FetchOrder tight = Check.of(wide.replace("#", "15").replace("@", "62"));
    run(tight, 0, 0, 6, 0, 6, 32, 2, 16);
    FetchOrder over = Check.of(wide.replace("#", "16").replace("@", "78"));
    run(over, 0, 0, 6, 0, 6, 34, 2, 17);
  }

  private static void keptAreTheLatestUsed() {
    // PAGES 0 1 0 2 0: with two KEPT 1 goes for 2, as 0 was used behind it, though it came first.
    FetchOrder x = Check.of("fun a 1;fun b 1;fun c 1;page 16;kept 2;block a 8 call b go 1 1;block a 4 call c go 2 1;"
        + "block a 4 ret 1;block b 16 ret 1;block c 16 ret 1;");
    run(x, 0, 0, 9, 0, 5, 3, 0, 3);
    x.set(2, 1);
    run(x, 0, 0, 9, 0, 5, 5, 0, 3);
  }

  private static void pagesOneByOne() {
    // PAGES 0 1 2 of the one BLOCK, again and again: with two KEPT each is gone when it is due.
    FetchOrder x = Check.of("fun a 1;page 16;kept 2;block a 46 go 0 1;");
    run(x, 0, 0, 3, 0, 3, 9, 3, 3);
    x.set(2, 3);
    run(x, 0, 0, 3, 0, 3, 3, 3, 3);
    // From the first PAGE to the last: 0 1, then 1 2; with one KEPT 1 is still there.
    FetchOrder y = Check.of("fun a 1;page 16;kept 1;block a 24 go 1 1;block a 24 ret 1;");
    run(y, 0, 0, 9, 0, 2, 3, 0, 3);
  }

  private static void eachRunByItself() {
    FetchOrder x = Check.of("fun a 100;page 16;block a 16 if 1 50 else 2 50;block a 16 go 0 50;block a 16 ret 50;");
    int[] first = new int[4];
    for (int what = 0; what < 4; what++) {
      first[what] = x.run(0, 0, 50, 77, what);
    }
    for (int turn = 0; turn < 3; turn++) {
      x.run(0, 0, 200, turn, 0);
      run(x, 0, 0, 50, 77, first);
    }
    check.answered(x, "no ACT", x.many(10), 1);
    // PAGES of runs, and those TOUCHED, that were asked for ahead do not count: b is of PAGE 3 alone.
    FetchOrder y = Check.of("fun a 1;fun b 1;page 16;block a 48 ret 1;block b 16 ret 1;trace a;");
    run(y, 0, 0, 9, 0, 1, 3, 0, 3);
    run(y, 0, 1, 9, 0, 1, 1, 0, 1);
    check.answered(y, "TOUCHED", y.cost(0, 4), 3);
    run(y, 0, 1, 9, 0, 1, 1, 0, 1);
    check.answered(y, "TOUCHED", y.cost(0, 4), 3);
  }

  private static void eachOrderByItself() {
    FetchOrder x = Check.of(EdgeCallTest.UNLIKE);
    // Seed 3 draws 299, of 50 that is 49, not below 1: from 6 to 8, a JUMP by numbers, none by CHAINS.
    int[] jumps = {1, 0, 0, 0, 1};
    for (int how = 0; how < 5; how++) {
      run(x, how, 2, 9, 3, 2, 1, jumps[how], 1);
    }
    x.take(3);
    run(x, 4, 2, 9, 3, 2, 1, 0, 1);
  }
}
