/** Promise 17: a RUN by draws over a few pages that are kept. */
public final class RunTest {
  private static final Check check = new Check("RunTest");

  public static void main(String[] args) {
    draws();
    drawsOfFlowsBelowZero();
    calls();
    underWay();
    stepsEnd();
    keptPages();
    latestUsed();
    wrongInputs();
    check.finish();
  }

  private static void runIs(FetchOrder x, int[] call, int... due) {
    for (int what = 0; what < 4; what++) {
      int got = x.run(call[0], call[1], call[2], call[3], what);
      String told = "run(" + call[0] + "," + call[1] + "," + call[2] + "," + call[3] + "," + what + ")";
      check.answered(x, told, got, due[what]);
    }
  }

  private static int[] with(int how, int function, int steps, int seed) {
    return new int[] {how, function, steps, seed};
  }

  private static void draws() {
    String text = "fun a 100;block a 10 if 1 90 else 2 10;block a 8 go 3 90;block a 6 go 3 10;block a 5 ret 100;";
    FetchOrder x = Check.of(text);
    // Seed 0: 74, below 90, so the first; by numbers it does not fall to 3 behind 1.
    runIs(x, with(0, 0, 100, 0), 3, 1, 1, 1);
    runIs(x, with(1, 0, 100, 0), 3, 1, 0, 1);
    // Seed 3: 299, left by 100 it is 99, so the second: to 2, and to 3 behind it by numbers.
    runIs(x, with(0, 0, 100, 3), 3, 1, 1, 1);
    runIs(x, with(1, 0, 100, 3), 3, 1, 2, 1);
    // A loop of draws by 100: seed 7 gives 599, 44999, 32617: 99 and 99 are not below 40, 17 is.
    FetchOrder y = Check.of("fun a 40;block a 10 if 1 40 else 0 60;block a 5 ret 40;");
    runIs(y, with(0, 0, 200, 7), 4, 1, 2, 1);
    // 9,999 times 75 and 74 is 749,999; 29,092 is left by 65,537; 92 is left by 100.
    runIs(y, with(0, 0, 1, 9999), 1, 1, 1, 1);
    // A draw that is just the first FLOW goes the second way: 74 by 100.
    FetchOrder z = Check.of("fun a 100;block a 10 if 1 74 else 2 26;block a 5 ret 74;block a 5 ret 26;");
    runIs(z, with(0, 0, 1, 0), 1, 1, 1, 1);
    FetchOrder w = Check.of("fun a 100;block a 10 if 1 75 else 2 25;block a 5 ret 75;block a 5 ret 25;");
    runIs(w, with(0, 0, 1, 0), 1, 1, 0, 1);
  }

  private static void drawsOfFlowsBelowZero() {
    // FLOW of the first is -4, of the second 5: the draw is by 5, and never the first.
    FetchOrder x = Check.of("fun a 1;block a 5 if 1 50 else 2 5;block a 5 go 3 60;block a 5 ret 7;block a 5 ret 40;");
    for (int seed = 0; seed < 20; seed++) {
      check.answered(x, "two steps", x.run(0, 0, 200, seed, 0), 2);
      check.answered(x, "it jumps", x.run(0, 0, 200, seed, 2), 1);
    }
    // Both are 0: the first without a draw, so the next draw is still that of seed 0: 74 by 100.
    FetchOrder y = Check.of("fun a 0;fun b 100;block a 5 call b if 1 0 else 2 0;block a 5 call b ret 0;block a 9 ret 0;"
        + "block b 5 if 1 75 else 2 25;block b 5 ret 75;block b 5 ret 25;");
    runIs(y, with(0, 1, 200, 0), 2, 1, 0, 1);
    FetchOrder z = Check.of("fun a 0;fun b 100;block a 5 if 1 0 else 2 0;block a 5 call b ret 0;block a 9 ret 0;"
        + "block b 5 if 1 75 else 2 25;block b 5 ret 75;block b 5 ret 25;");
    runIs(z, with(0, 0, 200, 0), 4, 1, 0, 1);
  }

  private static void calls() {
    FetchOrder x = Check.of("fun a 1;fun b 1;fun c 1;block a 5 call b call c go 1 1;block a 5 ret 1;"
        + "block b 5 call c ret 1;block c 5 ret 1;");
    runIs(x, with(0, 0, 200, 0), 5, 1, 0, 1);
    runIs(x, with(0, 1, 200, 0), 2, 1, 0, 1);
    runIs(x, with(0, 2, 200, 0), 1, 1, 0, 1);
    // Calls come ahead of the END: the callee's step is the second.
    FetchOrder y = Check.of("fun a 1;fun b 1;block a 5 call b go 0 1;block b 5 ret 1;");
    runIs(y, with(0, 0, 1, 0), 1, 1, 0, 1);
    runIs(y, with(0, 0, 2, 0), 2, 1, 1, 1);
    runIs(y, with(0, 0, 3, 0), 3, 1, 1, 1);
    runIs(y, with(0, 0, 200, 0), 200, 1, 100, 1);
  }

  private static void underWay() {
    FetchOrder x = Check.of("fun a 1;block a 5 call a ret 1;");
    runIs(x, with(0, 0, 200, 0), 8, 1, 0, 1);
    FetchOrder y = Check.of("fun a 1;fun b 1;block a 5 call b call a ret 1;block b 5 ret 1;");
    // a seven times with b and a under it, and an eighth a that calls none.
    runIs(y, with(0, 0, 200, 0), 15, 1, 0, 1);
    FetchOrder z = Check.of("fun a 1;block a 5 call a call a ret 1;");
    runIs(z, with(0, 0, 200, 0), 200, 1, 0, 1);
    FetchOrder w = Check.of("fun a 1;fun b 1;block a 5 call b ret 1;block b 5 call b go 1 1;block b 5 ret 1;");
    runIs(w, with(0, 0, 200, 0), 15, 1, 0, 1);
  }

  private static void stepsEnd() {
    FetchOrder x = Check.of("fun a 1;block a 5 go 0 9;");
    runIs(x, with(0, 0, 1, 0), 1, 1, 1, 1);
    runIs(x, with(0, 0, 200, 0), 200, 1, 200, 1);
    // The END of the last step still counts, what would be a step more does not.
    FetchOrder y = Check.of("fun a 1;fun b 1;block a 5 call b go 2 1;block a 5 ret 1;block a 5 go 1 1;block b 5 ret 1;");
    runIs(y, with(0, 0, 1, 0), 1, 1, 0, 1);
    runIs(y, with(0, 0, 2, 0), 2, 1, 1, 1);
    runIs(y, with(0, 0, 3, 0), 3, 1, 2, 1);
    runIs(y, with(0, 0, 4, 0), 4, 1, 2, 1);
    runIs(y, with(0, 0, 200, 0), 4, 1, 2, 1);
  }

  private static void keptPages() {
    FetchOrder x = Check.of("fun a 1;page 16;kept 1;block a 14 go 1 10;block a 14 go 0 10;");
    runIs(x, with(0, 0, 1, 0), 1, 1, 0, 1);
    runIs(x, with(0, 0, 2, 0), 2, 2, 1, 2);
    runIs(x, with(0, 0, 3, 0), 3, 3, 1, 2);
    x.set(2, 2);
    runIs(x, with(0, 0, 3, 0), 3, 2, 1, 2);
    runIs(x, with(0, 0, 200, 0), 200, 2, 100, 2);
    // A BLOCK of 7 pages with 6 kept misses all of them each time, with 7 only at first.
    FetchOrder y = Check.of("fun a 1;page 16;kept 6;block a 99 go 0 1;");
    runIs(y, with(0, 0, 3, 0), 3, 21, 3, 7);
    y.set(2, 7);
    runIs(y, with(0, 0, 3, 0), 3, 7, 3, 7);
    // Three BLOCKS of 96 bytes are 18 pages, of which 16 are kept: in a ring each is missed each time.
    FetchOrder z = Check.of("fun a 1;page 16;kept 16;block a 96 go 1 1;block a 96 go 2 1;block a 94 go 0 1;");
    runIs(z, with(0, 0, 6, 0), 6, 36, 2, 18);
  }

  private static void latestUsed() {
    // Pages go 0, 2, 0, 1, 0: of two that are kept the latest used stay, so 0 is missed once.
    FetchOrder x = Check.of("fun m 1;fun f 1;page 16;kept 2;block m 4 call f go 1 1;block m 4 go 3 1;block m 6 ret 1;"
        + "block m 14 go 2 1;block f 16 ret 1;");
    runIs(x, with(0, 0, 200, 0), 5, 3, 2, 3);
    x.set(2, 1);
    runIs(x, with(0, 0, 200, 0), 5, 5, 2, 3);
    x.set(2, 3);
    runIs(x, with(0, 0, 200, 0), 5, 3, 2, 3);
  }

  private static void wrongInputs() {
    FetchOrder x = Check.of(LookTest.TWO);
    check.refused(x, "how", x.run(5, 0, 1, 0, 0), 1);
    check.refused(x, "how", x.run(-1, 0, 1, 0, 0), 1);
    check.refused(x, "steps", x.run(0, 0, 0, 0, 0), 1);
    check.refused(x, "steps", x.run(0, 0, 201, 0, 0), 1);
    check.refused(x, "seed", x.run(0, 0, 1, -1, 0), 1);
    check.refused(x, "seed", x.run(0, 0, 1, 10000, 0), 1);
    check.refused(x, "what", x.run(0, 0, 1, 0, -1), 1);
    check.refused(x, "what", x.run(0, 9, 1, 0, 4), 1);
    check.refused(x, "function", x.run(0, 2, 1, 0, 0), 2);
    check.refused(x, "function", x.run(0, -1, 1, 0, 0), 2);
    check.due("the edges", x.run(4, 1, 200, 9999, 3) > 0 ? 1 : 0, 1);
  }
}
