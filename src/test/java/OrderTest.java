/** Promises 11 to 16: ORDERS, places, what falls, costs, JUMPS, the least there is. */
public final class OrderTest {
  private static final Check check = new Check("OrderTest");

  public static void main(String[] args) {
    orders();
    coldBehindAll();
    clusteredAndStarted();
    places();
    falls();
    costs();
    touched();
    jumps();
    least();
    empty();
    check.finish();
  }

  private static void lineIs(FetchOrder x, int how, int... due) {
    for (int i = 0; i < due.length; i++) {
      check.answered(x, "order(" + how + "," + i + ")", x.order(how, i), due[i]);
      check.answered(x, "place(" + how + "," + due[i] + ",0)", x.place(how, due[i], 0), i);
    }
    check.refused(x, "order(" + how + "," + due.length + ")", x.order(how, due.length), 3);
  }

  private static void orders() {
    FetchOrder x = Check.of(LookTest.TWO);
    lineIs(x, 0, 0, 1, 2, 3, 4, 5);
    lineIs(x, 1, 0, 2, 3, 5, 1, 4);
    lineIs(x, 2, 0, 2, 3, 5, 1, 4);
    lineIs(x, 3, 3, 5, 0, 2, 4, 1);
    lineIs(x, 4, 0, 1, 2, 3, 4, 5);
    check.refused(x, "order(5,0)", x.order(5, 0), 1);
    check.refused(x, "order(-1,0)", x.order(-1, 0), 1);
    check.refused(x, "order(0,-1)", x.order(0, -1), 1);
    check.refused(x, "order(5,99)", x.order(5, 99), 1);
    check.refused(x, "order(0,MAX)", x.order(0, Integer.MAX_VALUE), 3);
    FetchOrder y = Check.of("fun a 1;fun b 1;block b 5 ret 1;block a 5 ret 1;block b 5 ret 1;block a 5 ret 1;");
    lineIs(y, 0, 1, 3, 0, 2);
    lineIs(y, 4, 1, 3, 0, 2);
  }

  private static void coldBehindAll() {
    FetchOrder x = Check.of(LookTest.TWO);
    x.set(0, 0);
    lineIs(x, 1, 0, 2, 1, 3, 5, 4);
    x.set(0, 4);
    lineIs(x, 1, 0, 2, 1, 3, 5, 4);
    x.set(0, 9999);
    lineIs(x, 1, 0, 2, 3, 5, 1, 4);
    // Two COLD CHAINS of one FUNCTION stay as they stood.
    FetchOrder y = Check.of("fun a 1000;block a 5 if 1 3 else 2 997;block a 5 ret 3;block a 5 if 3 990 else 4 7;"
        + "block a 5 ret 990;block a 5 ret 7;cold 10;");
    lineIs(y, 1, 0, 2, 3, 4, 1);
    FetchOrder z = Check.of("fun a 1000;fun b 1;block a 5 if 1 3 else 2 997;block a 5 ret 3;"
        + "block a 5 if 3 990 else 4 7;block a 5 ret 990;block a 5 ret 7;block b 5 ret 1;cold 10;");
    lineIs(z, 1, 0, 2, 3, 5, 4, 1);
  }

  private static void clusteredAndStarted() {
    FetchOrder x = Check.of("fun a 1;fun b 9;fun c 9;fun d 2;block a 10 ret 1;block b 10 call c ret 9;"
        + "block c 10 call b ret 9;block d 10 ret 2;trace d b;");
    lineIs(x, 1, 0, 1, 2, 3);
    lineIs(x, 2, 2, 1, 3, 0);
    lineIs(x, 3, 3, 1, 2, 0);
    // COLD CHAINS of CLUSTERED and STARTED go by their own row of FUNCTIONS.
    String twins = "block a 5 if 1 1 else 2 9;block a 5 ret 1;block a 5 ret 9;"
        + "block b 5 if 1 1 else 2 99;block b 5 ret 1;block b 5 ret 99;cold 1;";
    FetchOrder y = Check.of("fun a 10;fun b 100;" + twins);
    lineIs(y, 1, 0, 2, 3, 5, 1, 4);
    lineIs(y, 2, 3, 5, 0, 2, 4, 1);
    lineIs(y, 3, 3, 5, 0, 2, 4, 1);
    FetchOrder z = Check.of("fun a 10;fun b 100;" + twins + "trace a;");
    lineIs(z, 2, 3, 5, 0, 2, 4, 1);
    lineIs(z, 3, 0, 2, 3, 5, 1, 4);
  }

  private static void places() {
    FetchOrder x = Check.of(LookTest.TWO);
    int[][] due = {{0, 0, 10, 0, 0}, {4, 35, 22, 0, 0}, {1, 10, 10, 0, 0}, {2, 20, 10, 0, 0}, {5, 57, 30, 0, 1},
      {3, 30, 5, 0, 0}};
    for (int b = 0; b < 6; b++) {
      for (int what = 0; what < 5; what++) {
        check.answered(x, "place(1," + b + "," + what + ")", x.place(1, b, what), due[b][what]);
      }
    }
    x.set(1, 29);
    check.due("first page", x.place(1, 4, 3), 57 / 29);
    check.due("last page", x.place(1, 4, 4), 86 / 29);
    x.set(1, 57);
    check.due("last byte 56 is of page 0", x.place(1, 1, 4), 0);
    check.due("byte 57 is of page 1", x.place(1, 4, 3), 1);
    check.refused(x, "place(5,0,0)", x.place(5, 0, 0), 1);
    check.refused(x, "place(0,0,5)", x.place(0, 0, 5), 1);
    check.refused(x, "place(0,9,-1)", x.place(0, 9, -1), 1);
    check.refused(x, "place(0,6,0)", x.place(0, 6, 0), 2);
    check.refused(x, "place(0,-1,0)", x.place(0, -1, 0), 2);
    FetchOrder y = Check.of("fun a 1;block a 5 go 0 9;block a 5 if 0 1 else 0 1;block a 5 if 3 1 else 3 1;block a 5 ret 1;");
    int[] bytes = {7, 7, 5, 5};
    for (int b = 0; b < 4; b++) {
      check.due("bytes of " + b, y.place(0, b, 2), bytes[b]);
    }
  }

  private static void falls() {
    FetchOrder x = Check.of(LookTest.TWO);
    int[][] due = {{0, 0, 0, 1, 1, 0, 1, 0, 0, 0}, {0, 0, 1, 0, 0, 0, 0, 1, 0, 0}};
    for (int how = 0; how < 2; how++) {
      for (int a = 0; a < 10; a++) {
        check.answered(x, "falls(" + how + "," + a + ")", x.falls(how, a), due[how][a]);
      }
    }
    check.refused(x, "falls(5,0)", x.falls(5, 0), 1);
    check.refused(x, "falls(-1,99)", x.falls(-1, 99), 1);
    check.refused(x, "falls(0,10)", x.falls(0, 10), 2);
    check.refused(x, "falls(0,-1)", x.falls(0, -1), 2);
    FetchOrder y = Check.of("fun a 4;block a 5 if 1 3 else 1 1;block a 5 ret 4;");
    check.due("both fall", y.falls(0, 1) + y.falls(0, 2), 2);
    check.due("cost(0,5)", y.cost(0, 5), 2);
    check.due("cost(0,2)", y.cost(0, 2), 1);
    check.due("cost(0,0)", y.cost(0, 0), 0);
  }

  private static void costs() {
    FetchOrder x = Check.of(LookTest.TWO);
    int[][] due = {{144, 85, 1, 2, 2, 3}, {11, 87, 1, 2, 1, 2}};
    for (int how = 0; how < 2; how++) {
      for (int what = 0; what < 6; what++) {
        check.answered(x, "cost(" + how + "," + what + ")", x.cost(how, what), due[how][what]);
      }
    }
    check.refused(x, "cost(5,0)", x.cost(5, 0), 1);
    check.refused(x, "cost(-1,0)", x.cost(-1, 0), 1);
    check.refused(x, "cost(0,6)", x.cost(0, 6), 1);
    check.refused(x, "cost(0,-1)", x.cost(0, -1), 1);
    x.set(1, 85);
    check.due("85 bytes, pages of 85", x.cost(0, 3), 1);
    x.set(1, 84);
    check.due("85 bytes, pages of 84", x.cost(0, 3), 2);
  }

  private static void touched() {
    FetchOrder x = Check.of("fun a 10;fun b 3;block a 16 if 1 2 else 2 8;block a 16 ret 2;block a 16 ret 8;"
        + "block b 16 ret 3;page 16;cold 2;trace a;");
    check.due("0 and 2", x.cost(0, 4), 2);
    x.set(0, 1);
    check.due("0, 1 and 2", x.cost(0, 4), 3);
    x.set(0, 9999);
    check.due("the entry", x.cost(0, 4), 1);
    x.set(1, 32);
    x.set(0, 2);
    check.due("0 of page 0, 2 of page 1", x.cost(0, 4), 2);
    FetchOrder y = Check.of("fun a 10;block a 16 ret 10;");
    check.due("without TRACE", y.cost(0, 4), 0);
  }

  private static void jumps() {
    FetchOrder x = Check.of(LookTest.TWO);
    int[][] due = {{95, 49}, {10, 1}, {10, 1}, {10, 1}, {95, 49}};
    for (int how = 0; how < 5; how++) {
      for (int f = 0; f < 2; f++) {
        check.answered(x, "jumps(" + how + "," + f + ")", x.jumps(how, f), due[how][f]);
      }
    }
    check.refused(x, "jumps(5,0)", x.jumps(5, 0), 1);
    check.refused(x, "jumps(-1,9)", x.jumps(-1, 9), 1);
    check.refused(x, "jumps(0,2)", x.jumps(0, 2), 2);
    check.refused(x, "jumps(0,-1)", x.jumps(0, -1), 2);
  }

  private static void least() {
    FetchOrder x = Check.of(LookTest.TWO);
    check.answered(x, "least(0)", x.least(0), 10);
    check.answered(x, "least(1)", x.least(1), 1);
    check.refused(x, "least(2)", x.least(2), 2);
    check.refused(x, "least(-1)", x.least(-1), 2);
    // CHAINED lets the 10 from 0 to 1 fall; 0, 3, 2, 1 lets three 9s fall instead.
    FetchOrder y = Check.of("fun a 19;block a 5 if 1 10 else 3 9;block a 5 ret 19;block a 5 go 1 9;block a 5 go 2 9;");
    check.answered(y, "cost(0,0)", y.cost(0, 0), 27);
    check.answered(y, "cost(1,0)", y.cost(1, 0), 18);
    check.answered(y, "least(0)", y.least(0), 10);
    FetchOrder seven = Check.of("fun a 1;" + "block a 1 ret 1;".repeat(7));
    check.answered(seven, "7 blocks", seven.least(0), 0);
    FetchOrder eight = Check.of("fun a 1;" + "block a 1 ret 1;".repeat(8));
    check.refused(eight, "8 blocks", eight.least(0), 5);
    FetchOrder one = Check.of("fun a 1;block a 1 go 0 7;");
    check.answered(one, "to itself it always jumps", one.least(0), 7);
    // The ENTRY stays first, though 10 that go back to it would fall otherwise.
    FetchOrder back = Check.of("fun a 10;block a 5 if 1 30 else 2 10;block a 5 go 0 30;block a 5 ret 10;");
    check.answered(back, "least(0)", back.least(0), 40);
  }

  private static void empty() {
    FetchOrder x = new FetchOrder();
    for (int how = 0; how < 5; how++) {
      for (int what = 0; what < 6; what++) {
        check.answered(x, "empty: cost", x.cost(how, what), 0);
      }
      check.refused(x, "empty: order", x.order(how, 0), 3);
      check.refused(x, "empty: place", x.place(how, 0, 0), 2);
      check.refused(x, "empty: falls", x.falls(how, 0), 2);
      check.refused(x, "empty: jumps", x.jumps(how, 0), 2);
    }
    check.refused(x, "empty: least", x.least(0), 2);
  }
}
