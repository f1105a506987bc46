/** Promises 3, 4, 5: the tape, the text with its FAULTS, what fault() tells. */
public final class TextTest {
  private static final Check check = new Check("TextTest");
  private static final String BLANKS = " ".repeat(20);

  public static void main(String[] args) {
    tape();
    loadTakesFirstBytes();
    eachTextByItself();
    loadWithNumberThatCantBe();
    faultTells();
    faultyLoadChangesNothingElse();
    textsThatFit();
    noToken();
    cantStandThere();
    names();
    numbers();
    toldAlready();
    tooMany();
    atTheEnd();
    firstAlongTheText();
    check.finish();
  }

  private static void tape() {
    FetchOrder x = new FetchOrder();
    int blank = 0x20202020;
    for (int i = 1; i <= 45; i++) {
      check.due("feed " + i, x.feed(blank, blank, blank, blank, blank), 20 * i);
    }
    check.due("feed 46", x.feed(1, 2, 3, 4, 5), -1);
    check.due("feed has no status", x.status(), 0);
    check.refused(x, "load(901)", x.load(901), 1);
    check.answered(x, "load(900)", x.load(900), 0);
    check.due("feed again", x.feed(blank, blank, blank, blank, blank), 20);
    FetchOrder y = new FetchOrder();
    check.due("highest byte first", y.feed(0x66756e20, 0x6120313b, 0x21222324, 0x25262728, -1), 20);
    check.refused(y, "load(20)", y.load(20), 9);
    check.due("fault(0)", y.fault(0), 1);
    check.due("fault(1)", y.fault(1), 8);
  }

  private static void loadTakesFirstBytes() {
    FetchOrder x = new FetchOrder();
    Check.feed(x, "fun a 1;block a 5 ret 1;block a 6 ret 1;".getBytes());
    check.answered(x, "load(24)", x.load(24), 1);
    check.due("many(1)", x.many(1), 1);
    check.refused(x, "the rest is gone", x.load(1), 1);
    check.answered(x, "load(0)", x.load(0), 0);
    check.due("many(0)", x.many(0), 0);
    check.due("many(10)", x.many(10), 2);
  }

  private static void eachTextByItself() {
    FetchOrder x = new FetchOrder();
    for (int i = 0; i < 3; i++) {
      check.answered(x, "again", Check.load(x, "fun a 1;block a 5 ret 1;cold 1;page 20;kept 2;trace a;"), 1);
    }
    check.answered(x, "without", Check.load(x, "fun b 1;block b 5 ret 1;"), 1);
    check.due("no trace", x.many(6), 0);
    check.due("no cold", x.many(3), 0);
    check.due("page", x.many(4), 64);
  }

  private static void loadWithNumberThatCantBe() {
    FetchOrder x = new FetchOrder();
    Check.feed(x, "fun a 1;block a 5 ret 1;                ".getBytes());
    check.refused(x, "load(41)", x.load(41), 1);
    check.refused(x, "load(-1)", x.load(-1), 1);
    check.refused(x, "load(MIN)", x.load(Integer.MIN_VALUE), 1);
    check.refused(x, "load(MAX)", x.load(Integer.MAX_VALUE), 1);
    check.due("fault(0)", x.fault(0), -1);
    check.answered(x, "the tape is as it was", x.load(40), 1);
  }

  private static void faultTells() {
    FetchOrder x = new FetchOrder();
    for (int what = -1; what < 3; what++) {
      check.due("new: fault(" + what + ")", x.fault(what), -1);
    }
    Check.load(x, "fun a 1;!");
    check.due("fault(0)", x.fault(0), 1);
    check.due("fault(1)", x.fault(1), 8);
    check.due("fault(2)", x.fault(2), -1);
    check.due("fault(-1)", x.fault(-1), -1);
    check.due("fault has no status", x.status(), 9);
    x.load(1);
    check.due("not that with status 1", x.fault(0), 1);
    Check.load(x, "fun a 1;block a 5 ret 1;");
    check.due("fault(0)", x.fault(0), 0);
    check.due("fault(1)", x.fault(1), -1);
    x.undo();
    check.due("the latest load stays the latest", x.fault(0), 0);
  }

  private static void faultyLoadChangesNothingElse() {
    FetchOrder x = Check.of("fun a 1;block a 5 ret 1;page 99;");
    Check.load(x, "fun a 1;fun b 2;block a 5 ret 1;block b 5 ret 1;page 98;!");
    check.due("status", x.status(), 9);
    check.due("many(0)", x.many(0), 1);
    check.due("many(4)", x.many(4), 99);
    check.due("many(10)", x.many(10), 1);
    check.refused(x, "the tape is empty", x.load(1), 1);
  }

  private static void fits(String text, int blocks) {
    check.fits(text, blocks);
  }

  private static void textsThatFit() {
    fits("", 0);
    fits(" \n ", 0);
    fits("cold 1;page 16;kept 1;", 0);
    fits("cold 9999;page 512;kept 16;", 0);
    fits("fun a1;block a5ret1;", 1);
    fits("fun a 1;block a 5call a call a ret 1;", 1);
    fits("\nfun\na\n1\n;\nblock\na\n5\nret\n1\n;\n", 1);
    fits("fun a 0001;block a 01 ret 0000;", 1);
    fits("fun a 9999;block a 99 ret 9999;block a 1 if 0 1 else 2 1;block a 1 go 1 1;", 3);
    fits("fun abcdef 1;fun calls 2;fun f 3;block calls 1 ret 1;block f 1 ret 1;block abcdef 1 ret 1;", 3);
    fits("fun a 1;fun b 1;block b 5 ret 1;trace b a;block a 5 go 0 1;", 2);
    fits("fun az 1;fun za 9;fun z 9;block z 9 ret 9;block za 9 ret 9;block az 9 ret 0;", 3);
    fits(functions(8) + blocks(8), 8);
    fits("fun a 1;" + "block a1ret1;".repeat(40), 40);
    FetchOrder x = Check.of("fun a 7;fun b 8;block b 5 ret 2;block a 6 go 1 3;block a 7 call b call a ret 4;");
    check.due("blocks are numbered as told", x.block(1, 0), 0);
    check.due("go's number is the function's", x.arc(3, 1), 2);
    check.due("calls one behind the other", x.block(2, 8), 1);
    check.due("calls one behind the other", x.block(2, 9), 0);
  }

  private static String functions(int n) {
    StringBuilder t = new StringBuilder();
    for (int f = 0; f < n; f++) {
      t.append("fun ").append((char) ('a' + f)).append(" 1;");
    }
    return t.toString();
  }

  private static String blocks(int n) {
    StringBuilder t = new StringBuilder();
    for (int f = 0; f < n; f++) {
      t.append("block ").append((char) ('a' + f)).append(" 5 ret 1;");
    }
    return t.toString();
  }

  private static void faulty(String text, int kind, int place) {
    check.faulty(text, kind, place);
  }

  private static void noToken() {
    faulty("!", 1, 0);
    faulty("  A", 1, 2);
    faulty("\tfun a 1;", 1, 0);
    faulty("fun a\r1;", 1, 5);
    faulty("fun a\u00001;", 1, 5);
    faulty("fun \u00e9 1;", 1, 4);
    faulty("fun a 10000;", 1, 6);
    faulty("fun a 00001;", 1, 6);
    faulty("fun 12345 1;", 1, 4);
    faulty("123456", 1, 0);
    faulty("fun a -1;", 1, 6);
    faulty("fun a 1:", 1, 7);
    faulty("fun aB 1;", 1, 5);
  }

  private static void cantStandThere() {
    faulty("a", 2, 0);
    faulty(";", 2, 0);
    faulty("7", 2, 0);
    faulty("call a;", 2, 0);
    faulty("fun", 2, 3);
    faulty("fun ", 2, 4);
    faulty("fun 1;", 2, 4);
    faulty("fun a;", 2, 5);
    faulty("fun a b 1;", 2, 6);
    faulty("fun a 1 1;", 2, 8);
    faulty("fun a 1", 2, 7);
    faulty("fun abcdefg 1;", 2, 4);
    for (String word : "fun block call ret go if else cold page kept trace".split(" ")) {
      faulty("fun " + word + " 1;", 2, 4);
      faulty("fun a 1;block " + word + " 1;", 2, 14);
      faulty("fun a 1;trace a " + word + ";", 2, 16);
    }
    faulty("fun a 1;block a 5;", 2, 17);
    faulty("fun a 1;block a ret 1;", 2, 16);
    faulty("fun a 1;block a 5 ret 1", 2, 23);
    faulty("fun a 1;block a 5 ret ;", 2, 22);
    faulty("fun a 1;block a 5 go 0;", 2, 22);
    faulty("fun a 1;block a 5 else 0 1;", 2, 18);
    faulty("fun a 1;block a 5 if 0 1;", 2, 24);
    faulty("fun a 1;block a 5 if 0 1 else 0;", 2, 31);
    faulty("fun a 1;block a 5 call a;", 2, 24);
    faulty("fun a 1;block a 5 call abcdefg ret 1;", 2, 23);
    faulty("fun a 1;block a 5 ret 1 call a;", 2, 24);
    faulty("fun a 1;block a 5 ret 1;fun b 1;", 2, 24);
    faulty("cold 1;fun a 1;", 2, 7);
    faulty("cold;", 2, 4);
    faulty("cold cold 1;", 2, 5);
    faulty("page a;", 2, 5);
    faulty("trace;", 2, 5);
    faulty("fun a 1;trace a 1;", 2, 16);
    faulty("fun a 1;trace abcdefg;", 2, 14);
    faulty("fun a 1;abcdefg", 2, 8);
    faulty("fun a 1;trace a", 2, 15);
  }

  private static void names() {
    faulty("fun a 1;fun a 1;", 3, 12);
    faulty("fun ab 1;fun a 1;fun ab 1;", 3, 21);
    faulty("block a 5 ret 1;", 3, 6);
    faulty("fun a 1;block b 0 ret 1;", 3, 14);
    faulty("fun a 1;block a 5 call b ret 1;", 3, 23);
    faulty("fun a 1;trace b;", 3, 14);
    faulty("fun a 1;trace a aa;", 3, 16);
    faulty("trace a;", 3, 6);
  }

  private static void numbers() {
    faulty("fun a 1;block a 0 ret 1;", 4, 16);
    faulty("fun a 1;block a 100 ret 1;", 4, 16);
    faulty("fun a 1;block a 5 go 40 1;", 4, 21);
    faulty("fun a 1;block a 5 if 40 1 else 0 1;", 4, 21);
    faulty("fun a 1;block a 5 if 0 1 else 40 1;", 4, 30);
    faulty("page 15;", 4, 5);
    faulty("page 513;", 4, 5);
    faulty("kept 0;", 4, 5);
    faulty("kept 17;", 4, 5);
  }

  private static void toldAlready() {
    faulty("cold 1;cold 1;", 5, 7);
    faulty("page 16;cold 1;page 17;", 5, 15);
    faulty("kept 1;kept", 5, 7);
    faulty("fun a 1;trace a;trace a;", 5, 16);
    faulty("fun a 1;trace a a;", 5, 16);
    faulty("fun a 1;fun b 1;trace a b a;", 5, 26);
    faulty(functions(8) + "trace a b c d e f g h a;", 5, 64 + 22);
  }

  private static void tooMany() {
    faulty(functions(9), 6, 64);
    faulty(functions(8) + "fun a 1;", 6, 64);
    faulty("fun a 1;" + "block a1ret1;".repeat(41), 6, 8 + 13 * 40);
    faulty("fun a 1;" + "block a1ret1;".repeat(40) + "block", 6, 8 + 13 * 40);
    faulty("fun a 1;block a 5 call a call a call b ret 1;", 6, 32);
  }

  private static void atTheEnd() {
    faulty("fun a 1;", 7, 8);
    faulty("fun a 1;fun b 1;block b 5 go 7 1; ", 7, 34);
    faulty("fun a 1;block a 5 go 1 1;", 8, 25);
    faulty("fun a 1;block a 5 if 0 1 else 1 1;", 8, 34);
    faulty("fun a 1;fun b 1;block a 5 ret 1;block b 5 go 1 1;block a 5 ret 1;\n", 8, 66);
  }

  private static void firstAlongTheText() {
    faulty("fun a 1;fun a 10000;", 3, 12);
    faulty("fun a 1;block a 0 ret 10000;", 4, 16);
    faulty("fun a 1;block a 5 ret 1;block b 5 go 9 1;", 3, 30);
    faulty("fun a 1;page 15;page 16;", 4, 13);
    faulty("fun a 1;cold 1;cold 12345;", 5, 15);
    faulty("cold 1;" + BLANKS + "fun 12345", 2, 27);
  }
}
