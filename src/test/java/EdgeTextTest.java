/** The edges of section 1 and of promises 3 to 5, a sentence of the document after the other. */
public final class EdgeTextTest {
  private static final Check check = new Check("EdgeTextTest");
  private static final String ONE = "fun a 1;block a 1 ret 1;";
  private static final int BLANK = 0x20202020;

  public static void main(String[] args) {
    functionsAtMostEight();
    blocksAtMostForty();
    theGreatestProgram();
    functionHasOneBlockAtLeast();
    firstBlockIsTheEntry();
    sizes();
    callsAtMostTwo();
    arcsAreNumbered();
    counts();
    settings();
    trace();
    textOfNineHundredBytes();
    tokensAsLongAsTheyGo();
    blanksAreTenAndThirtyTwo();
    numbersOfOneToFourDigits();
    namesOfOneToSixLetters();
    namesAreNoKeywords();
    linesComeBehindFunctions();
    wayIsZeroToThirtyNine();
    wayMayBeToldBehind();
    tokensThatCantStandThere();
    eachFaultAtItsFirstPlace();
    twoFaultsOfOneKind();
    twoFaultsOfUnlikeKinds();
    leastKindOfOneToken();
    leastKindAtTheEnd();
    placeOfTheEndIsTheLength();
    tapeEmpty();
    tapeFull();
    highestByteFirst();
    loadOfNone();
    loadOfAll();
    loadBeyond();
    loadLeavesAnEmptyTape();
    refusedLoadLeavesTheTape();
    faultAheadOfAny();
    faultOfOthers();
    faultOfTheLatest();
    check.finish();
  }

  private static String functions(int n) {
    StringBuilder t = new StringBuilder();
    for (int f = 0; f < n; f++) {
      t.append("fun ").append((char) ('a' + f)).append(" 1;");
    }
    return t.toString();
  }

  private static String blocks(int functions) {
    StringBuilder t = new StringBuilder();
    for (int f = 0; f < functions; f++) {
      t.append("block ").append((char) ('a' + f)).append(" 1 ret 1;");
    }
    return t.toString();
  }

  // ---- FUNCTIONS, at most 8, and BLOCKS, at most 40

  private static void functionsAtMostEight() {
    FetchOrder x = check.fits(functions(8) + blocks(8), 8);
    check.answered(x, "many(0)", x.many(0), 8);
    check.faulty(functions(9) + blocks(9), 6, 64);
    check.faulty(functions(8) + "fun", 6, 64);
    check.faulty(functions(8) + "fun a", 6, 64);
    check.faulty(functions(8) + "fun 7", 6, 64);
    check.faulty(functions(8) + "fun !", 6, 64);
    check.faulty(functions(8) + "  fun i 1;", 6, 66);
  }

  private static void blocksAtMostForty() {
    FetchOrder x = check.fits("fun a 1;" + "block a1ret1;".repeat(40), 40);
    check.answered(x, "many(1)", x.many(1), 40);
    check.answered(x, "block(39,0)", x.block(39, 0), 0);
    check.faulty("fun a 1;" + "block a1ret1;".repeat(41), 6, 8 + 13 * 40);
    check.faulty("fun a 1;" + "block a1ret1;".repeat(40) + "block b", 6, 8 + 13 * 40);
    check.faulty("fun a 1;" + "block a1ret1;".repeat(40) + " block !", 6, 9 + 13 * 40);
    check.faulty("fun a1;fun b1;" + "block a1ret1;".repeat(40) + "block b1ret1;", 6, 14 + 13 * 40);
    check.fits("fun a 1;" + "block a1ret1;".repeat(40) + "cold 1;page 16;kept 1;trace a;", 40);
  }

  /** 8 FUNCTIONS, 40 BLOCKS, each an EITHER: 88 ARCS in 896 bytes. */
  private static void theGreatestProgram() {
    check.due("its bytes", EdgeCallTest.FULL.length(), 896);
    FetchOrder x = check.fits(EdgeCallTest.FULL, 40);
    check.answered(x, "many(0)", x.many(0), 8);
    check.answered(x, "many(1)", x.many(1), 40);
    check.answered(x, "many(2)", x.many(2), 88);
  }

  private static void functionHasOneBlockAtLeast() {
    check.fits(ONE, 1);
    check.faulty("fun a 1;", 7, 8);
    check.faulty(functions(3) + "block b 1 ret 1;block c 1 ret 1;", 7, 56);
    check.faulty(functions(3) + "block a 1 ret 1;block c 1 ret 1;", 7, 56);
    check.faulty(functions(3) + "block a 1 ret 1;block b 1 ret 1;", 7, 56);
    check.fits(functions(3) + "block c 1 ret 1;block b 1 ret 1;block a 1 ret 1;", 3);
  }

  private static void firstBlockIsTheEntry() {
    FetchOrder x = check.fits(functions(3) + "block c 1 ret 1;block a 2 ret 1;block c 3 ret 1;block b 4 ret 1;"
        + "block a 5 ret 1;", 5);
    int[] entries = {1, 3, 0};
    for (int f = 0; f < 3; f++) {
      check.answered(x, "function(" + f + ",1)", x.function(f, 1), entries[f]);
      check.answered(x, "arc(" + f + ",1)", x.arc(f, 1), entries[f]);
    }
  }

  // ---- SIZE 1 to 99, CALLS at most two, COUNT 0 to 9,999

  private static void sizes() {
    check.faulty("fun a 1;block a 0 ret 1;", 4, 16);
    check.due("SIZE 1", check.fits("fun a 1;block a 1 ret 1;", 1).block(0, 1), 1);
    check.due("SIZE 99", check.fits("fun a 1;block a 99 ret 1;", 1).block(0, 1), 99);
    check.faulty("fun a 1;block a 100 ret 1;", 4, 16);
    check.faulty("fun a 1;block a 9999 ret 1;", 4, 16);
    check.faulty("fun a 1;block a 0000 ret 1;", 4, 16);
  }

  private static void callsAtMostTwo() {
    String head = "fun a 1;fun b 1;block b 1 ret 1;block a 5";
    int[][] due = {{0, -1, -1}, {1, 1, -1}, {2, 1, 0}};
    String[] calls = {"", " call b", " call b call a"};
    for (int n = 0; n <= 2; n++) {
      FetchOrder x = check.fits(head + calls[n] + " ret 1;", 2);
      for (int i = 0; i < 3; i++) {
        check.answered(x, n + " calls: block(1," + (7 + i) + ")", x.block(1, 7 + i), due[n][i]);
      }
    }
    FetchOrder x = check.fits(head + " call b call b ret 1;", 2);
    check.answered(x, "the same one twice", x.block(1, 7), 2);
    check.faulty(head + " call b call b call b ret 1;", 6, 41 + 14 + 1);
    check.faulty(head + " call b call b call", 6, 41 + 14 + 1);
    check.faulty(head + " call b call b call c ret 1;", 6, 41 + 14 + 1);
    check.faulty(head + " call b call b call 5", 6, 41 + 14 + 1);
  }

  private static void arcsAreNumbered() {
    FetchOrder x = check.fits("fun a 11;fun b 12;block b 1 if 1 13 else 0 14;block a 1 ret 15;block b 1 go 0 16;", 3);
    int[][] due = {{-1, 1, 11}, {-1, 0, 12}, {0, 2, 13}, {0, 0, 14}, {1, -1, 15}, {2, 0, 16}};
    check.answered(x, "many(2)", x.many(2), 6);
    for (int a = 0; a < 6; a++) {
      for (int what = 0; what < 3; what++) {
        check.answered(x, "arc(" + a + "," + what + ")", x.arc(a, what), due[a][what]);
      }
    }
    int[] first = {2, 4, 5};
    for (int b = 0; b < 3; b++) {
      check.answered(x, "block(" + b + ",3)", x.block(b, 3), first[b]);
      check.answered(x, "block(" + b + ",2)", x.block(b, 2), new int[] {2, 0, 1}[b]);
    }
  }

  private static void counts() {
    String text = "fun a #;block a 1 go 1 #;block a 1 if 0 # else 2 #;block a 1 ret #;";
    for (String count : new String[] {"0", "0000", "1", "9999"}) {
      FetchOrder x = check.fits(text.replace("#", count), 3);
      for (int a = 0; a < 5; a++) {
        check.answered(x, "arc(" + a + ",2) of " + count, x.arc(a, 2), Integer.parseInt(count));
      }
    }
    for (int i = 0, at = text.indexOf('#'); i < 5; i++, at = text.indexOf('#', at + 1)) {
      String head = text.substring(0, at).replace('#', '1');
      String tail = text.substring(at + 1).replace('#', '1');
      check.faulty(head + "10000" + tail, 1, at);
      check.faulty(head + "-1" + tail, 1, at);
      check.faulty(head + tail.trim(), 2, at);
    }
  }

  // ---- COLD, PAGE, KEPT, TRACE

  private static void settings() {
    String[] words = {"cold", "page", "kept"};
    int[] without = {0, 64, 4};
    int[] low = {0, 16, 1};
    int[] high = {9999, 512, 16};
    for (int i = 0; i < 3; i++) {
      check.due(words[i] + " without", check.fits(ONE, 1).many(3 + i), without[i]);
      check.due(words[i] + " low", check.fits(words[i] + " " + low[i] + ";", 0).many(3 + i), low[i]);
      check.due(words[i] + " high", check.fits(ONE + words[i] + " " + high[i] + ";", 1).many(3 + i), high[i]);
      if (i > 0) {
        check.faulty(words[i] + " " + (low[i] - 1) + ";", 4, 5);
        check.faulty(words[i] + " " + (high[i] + 1) + ";", 4, 5);
        check.faulty(words[i] + " 9999;", 4, 5);
        check.faulty(words[i] + " 0;", 4, 5);
      }
      check.faulty(words[i] + " 10000;", 1, 5);
      check.faulty(words[i] + ";", 2, 4);
      check.faulty(words[i], 2, 4);
      check.faulty(words[i] + " 16 16;", 2, 8);
      check.faulty(words[i] + " 16;" + words[i] + " 16;", 5, 8);
      check.faulty(words[i] + " 16;" + words[i], 5, 8);
    }
  }

  private static void trace() {
    String all = functions(8) + blocks(8);
    check.due("none without", check.fits(all, 8).many(6), 0);
    check.due("one", check.fits(all + "trace h;", 8).many(6), 1);
    FetchOrder x = check.fits(all + "trace h g f e d c b a;", 8);
    check.answered(x, "all", x.many(6), 8);
    for (int f = 0; f < 8; f++) {
      check.answered(x, "function(" + f + ",7)", x.function(f, 7), 7 - f);
    }
    int at = all.length();
    check.faulty(all + "trace;", 2, at + 5);
    check.faulty(all + "trace", 2, at + 5);
    check.faulty(all + "trace a", 2, at + 7);
    check.faulty(all + "trace a a;", 5, at + 8);
    check.faulty(all + "trace a b c d e f g h a;", 5, at + 22);
    check.faulty(all + "trace a b c d e f g h h;", 5, at + 22);
    check.faulty(all + "trace a b c d e f g h i;", 3, at + 22);
    check.faulty(all + "trace a b c d e f g h trace;", 2, at + 22);
    check.faulty(all + "trace a b c d e f g h 1;", 2, at + 22);
    check.faulty(all + "trace a;trace b;", 5, at + 8);
    check.faulty(all + "trace a;trace", 5, at + 8);
    check.faulty("trace a;", 3, 6);
  }

  // ---- TEXT: at most 900 bytes; TOKENS

  private static void textOfNineHundredBytes() {
    String text = " ".repeat(900 - ONE.length()) + ONE;
    FetchOrder x = check.fits(text, 1);
    check.answered(x, "the last byte counts", x.many(2), 2);
    check.faulty(" ".repeat(899) + "!", 1, 899);
    check.faulty(" ".repeat(897) + "fun", 2, 900);
    check.fits(" ".repeat(900), 0);
    check.fits("\n".repeat(900), 0);
    check.faulty("a".repeat(900), 2, 0);
    check.faulty("1".repeat(900), 1, 0);
    check.faulty(";".repeat(900), 2, 0);
  }

  private static void tokensAsLongAsTheyGo() {
    check.fits("fun a1;block a1ret1;", 1);
    check.fits("fun a1;block a1call a call a if0 1else0 1;", 1);
    check.faulty("funa 1;", 2, 0);
    check.faulty("fun a 1;blocka 1 ret 1;", 2, 8);
    check.faulty("fun a 1;block a 1 reta 1;", 2, 18);
    check.faulty("fun a 1 2;", 2, 8);
    check.faulty("fun a 12345;", 1, 6);
    check.faulty("fun a b;", 2, 6);
    check.fits("fun ab 1;fun a 1;block ab 1 ret 1;block a 1 ret 1;", 2);
    check.faulty("fun a 1;;", 2, 8);
    check.faulty(";fun a 1;", 2, 0);
  }

  private static void blanksAreTenAndThirtyTwo() {
    check.fits("\n \nfun\n a \n 1 ; block\n\na  1\nret 1 \n;\n ", 1);
    for (char sign = 0; sign < 256; sign++) {
      boolean begins = sign == 10 || sign == 32 || sign == ';' || sign >= 'a' && sign <= 'z' || sign >= '0' && sign <= '9';
      if (!begins) {
        check.faulty(ONE + sign, 1, 24);
        check.faulty(sign + ONE, 1, 0);
      }
    }
  }

  private static void numbersOfOneToFourDigits() {
    int[] due = {7, 7, 7, 7};
    String[] told = {"7", "07", "007", "0007"};
    for (int i = 0; i < 4; i++) {
      check.due("SIZE " + told[i], check.fits("fun a 1;block a " + told[i] + " ret 1;", 1).block(0, 1), due[i]);
    }
    check.faulty("fun a 1;block a 00007 ret 1;", 1, 16);
    check.faulty("fun a 1;block a 99999999999999999999 ret 1;", 1, 16);
    // 2 to the 32nd and 5 more would be 5 in an int.
    check.faulty("fun a 1;block a 4294967301 ret 1;", 1, 16);
  }

  private static void namesOfOneToSixLetters() {
    check.fits("fun z 1;block z 1 ret 1;", 1);
    check.fits("fun zzzzzz 1;block zzzzzz 1 ret 1;trace zzzzzz;", 1);
    check.faulty("fun zzzzzzz 1;", 2, 4);
    check.faulty("fun a 1;block aaaaaaa 1 ret 1;", 2, 14);
    check.faulty("fun a 1;block a 1 call aaaaaaa ret 1;", 2, 23);
    check.faulty("fun a 1;trace aaaaaaa;", 2, 14);
    check.faulty("fun a 1;trace a aaaaaaa;", 2, 16);
    // Names alike in all but one letter, or but in length, are unlike names.
    FetchOrder x = check.fits("fun abcdef 1;fun bbcdef 2;fun abcdeg 3;fun abcde 4;fun bcdef 5;block abcdeg 1 ret 1;"
        + "block bcdef 1 ret 1;block abcde 1 ret 1;block bbcdef 1 ret 1;block abcdef 1 ret 1;", 5);
    int[] owners = {2, 4, 3, 1, 0};
    for (int b = 0; b < 5; b++) {
      check.answered(x, "block(" + b + ",0)", x.block(b, 0), owners[b]);
    }
  }

  private static void namesAreNoKeywords() {
    for (String word : "fun block call ret go if else cold page kept trace".split(" ")) {
      check.faulty("fun " + word + " 1;", 2, 4);
      check.faulty("fun a 1;block " + word + " 1 ret 1;", 2, 14);
      check.faulty("fun a 1;block a 1 call " + word + " ret 1;", 2, 23);
      check.faulty("fun a 1;trace " + word + ";", 2, 14);
      String longer = word + "s";
      check.fits("fun " + longer + " 1;block " + longer + " 1 ret 1;", 1);
      String shorter = word.substring(1);
      check.fits("fun " + shorter + " 1;block " + shorter + " 1 ret 1;", 1);
    }
  }

  private static void linesComeBehindFunctions() {
    check.faulty(ONE + "fun b 1;", 2, 24);
    check.faulty("cold 1;fun a 1;", 2, 7);
    check.faulty("page 16;fun a 1;", 2, 8);
    check.faulty("kept 1;fun a 1;", 2, 7);
    check.faulty("fun a 1;trace a;fun b 1;", 2, 16);
    check.fits("cold 1;page 16;kept 1;", 0);
    check.fits("fun a 1;trace a;kept 1;block a 1 ret 1;page 16;block a 1 ret 1;cold 1;", 2);
  }

  private static void wayIsZeroToThirtyNine() {
    String forty = "fun a 1;" + "block a1ret1;".repeat(39);
    FetchOrder x = check.fits(forty + "block a 1 if 39 1 else 0 1;", 40);
    check.answered(x, "to the last", x.arc(40, 1), 39);
    check.answered(x, "to the first", x.arc(41, 1), 0);
    check.faulty("fun a 1;block a 1 go 40 1;", 4, 21);
    check.faulty("fun a 1;block a 1 go 9999 1;", 4, 21);
    check.faulty("fun a 1;block a 1 if 40 1 else 0 1;", 4, 21);
    check.faulty("fun a 1;block a 1 if 0 1 else 40 1;", 4, 30);
    check.faulty("fun a 1;block a 1 go 39 1;", 8, 26);
  }

  private static void wayMayBeToldBehind() {
    FetchOrder x = check.fits("fun a 1;fun b 1;block a 1 go 2 1;block b 1 ret 1;block a 1 ret 1;block b 1 ret 1;"
        + "block a 1 ret 1;", 5);
    check.answered(x, "the FUNCTION's third", x.arc(2, 1), 4);
    check.faulty("fun a 1;fun b 1;block a 1 go 2 1;block b 1 ret 1;block a 1 ret 1;block b 1 ret 1;", 8, 81);
    check.faulty("fun a 1;block a 1 go 1 1;", 8, 25);
    check.fits("fun a 1;block a 1 go 0 1;", 1);
    check.faulty("fun a 1;block a 1 if 1 1 else 0 1;", 8, 34);
    check.faulty("fun a 1;block a 1 if 0 1 else 1 1;", 8, 34);
  }

  /** Each TOKEN of a text in turn is left out, or has another kind of TOKEN in its place. */
  private static void tokensThatCantStandThere() {
    String[] tokens = "fun a 1 ; block a 1 call a if 0 1 else 0 1 ; block a 1 go 0 1 ; block a 1 ret 1 ; cold 1 ; trace a ;"
        .split(" ");
    for (int i = 0; i < tokens.length; i++) {
      boolean number = Character.isDigit(tokens[i].charAt(0));
      StringBuilder head = new StringBuilder();
      for (int j = 0; j < i; j++) {
        head.append(tokens[j]).append(' ');
      }
      StringBuilder tail = new StringBuilder();
      for (int j = i + 1; j < tokens.length; j++) {
        tail.append(' ').append(tokens[j]);
      }
      int at = head.length();
      check.faulty(head + "else" + (tokens[i].equals("else") ? " else" : "") + tail, 2, at + (tokens[i].equals("else") ? 5 : 0));
      check.faulty(head + (number ? "a" : "1") + tail, 2, at);
      check.faulty(head + (tokens[i].equals(";") ? "fun" : ";") + tail, 2, at);
      check.faulty(head + "?" + tail, 1, at);
      check.faulty(head + "aaaaaaa" + tail, 2, at);
      check.faulty(head + "11111" + tail, 1, at);
      boolean lineEnds = i == 0 || tokens[i - 1].equals(";");
      if (!lineEnds) {
        check.faulty(head.toString(), 2, at);
      }
    }
  }

  // ---- FAULTS

  private static void eachFaultAtItsFirstPlace() {
    check.faulty("!", 1, 0);
    check.faulty("12345", 1, 0);
    check.faulty("fune", 2, 0);
    check.faulty("1", 2, 0);
    check.faulty("block a", 3, 6);
    check.faulty("page 1", 4, 5);
    check.faulty("fun a 1;fun a", 3, 12);
    check.faulty("cold 1;cold", 5, 7);
    check.faulty("page 99;page", 5, 8);
    check.faulty("kept 1;kept", 5, 7);
    check.faulty("fun a 1;trace a a", 5, 16);
    check.faulty(functions(8) + "fun", 6, 64);
    check.faulty("fun a 1;" + "block a1ret1;".repeat(40) + "block", 6, 528);
    check.faulty("fun a 1;block a 1 call a call a call", 6, 32);
    check.faulty("fun a 1;", 7, 8);
    check.faulty("fun a 1;block a 1 go 1 1;", 8, 25);
  }

  // With "fun a 1;block a 1 ret 1;cold 1;" ahead each of these has one FAULT, of kinds 1 to 6, so far in.
  private static final String HEAD = ONE + "cold 1;";
  private static final String[] SPOILT = {"!", ";", "block b 1 ret 1;", "block a 0 ret 1;", "cold 2;",
    "block a 1 call a call a call a ret 1;"};
  private static final int[] IN = {0, 0, 6, 8, 0, 24};

  private static void twoFaultsOfOneKind() {
    for (int kind = 1; kind <= 6; kind++) {
      String part = SPOILT[kind - 1];
      check.faulty(HEAD + part, kind, 31 + IN[kind - 1]);
      check.faulty(HEAD + part + " " + part, kind, 31 + IN[kind - 1]);
    }
    check.faulty("fun a 1;fun b 1;", 7, 16);
    check.faulty(ONE + "block a 1 go 5 1;block a 1 if 6 1 else 7 1;", 8, 67);
  }

  private static void twoFaultsOfUnlikeKinds() {
    for (int one = 1; one <= 6; one++) {
      for (int two = 1; two <= 6; two++) {
        check.faulty(HEAD + SPOILT[one - 1] + " " + SPOILT[two - 1], one, 31 + IN[one - 1]);
      }
      check.faulty(HEAD + "block a 1 go 9 1;" + SPOILT[one - 1], one, 31 + 17 + IN[one - 1]);
      check.faulty("fun z 1;" + HEAD + SPOILT[one - 1], one, 8 + 31 + IN[one - 1]);
    }
  }

  private static void leastKindOfOneToken() {
    // 1 ahead of 2: no TOKEN begins so, and it could not stand there either.
    check.faulty("fun 12345", 1, 4);
    check.faulty("fun a !", 1, 6);
    check.faulty(ONE + "12345", 1, 24);
    // 1 ahead of 4: of five digits, and too large.
    check.faulty("page 99999;", 1, 5);
    // 2 ahead of 3: seven letters, which no FUNCTION has either.
    check.faulty("fun a 1;block zzzzzzz 1 ret 1;", 2, 14);
    // 2 ahead of 4: a NUMBER that can't be where none can stand.
    check.faulty("fun a 1;block 0 1 ret 1;", 2, 14);
    check.faulty(ONE + "page 16 9999;", 2, 32);
    // 2 ahead of 5: told already, where it can't stand.
    check.faulty(ONE + "cold 1;block a 1 cold", 2, 41);
    check.faulty(ONE + "trace a;block a 1 ret 1 trace", 2, 48);
    check.faulty("kept 1;page kept;", 2, 12);
    // 2 ahead of 6: the ninth fun behind a LINE, a 41st block and a third call where none can stand.
    check.faulty(functions(8) + blocks(8) + "fun i 1;", 2, 64 + 128);
    check.faulty("fun a 1;" + "block a1ret1;".repeat(39) + "block a1ret1 block", 2, 8 + 13 * 40);
    check.faulty("fun a 1;block a 1 call a call a ret 1 call a;", 2, 38);
    check.faulty("fun a 1;block a 1 call a call call a ret 1;", 2, 30);
    // 3 ahead of 5: not both can be, a NAME that no FUNCTION has is not in TRACE.
    check.faulty("fun a 1;trace a b a;", 3, 16);
  }

  private static void leastKindAtTheEnd() {
    check.faulty("fun a 1;fun b 1;block a 1 go 1 1", 2, 32);
    check.faulty("fun a 1;fun b 1;block a 1 go 1 1;", 7, 33);
    check.faulty("fun a 1;fun b 1;block b 1 go 1 1;", 7, 33);
    check.faulty("fun a 1;block a 1 go 1 1", 2, 24);
    check.faulty("fun a 1", 2, 7);
  }

  private static void placeOfTheEndIsTheLength() {
    check.faulty("fun a 1 \n ", 2, 10);
    check.faulty("fun a 1; \n ", 7, 11);
    check.faulty("fun a 1;block a 1 go 1 1; \n ", 8, 28);
    // The text ends with n, not with the tape: what is behind on the tape does not count.
    FetchOrder x = new FetchOrder();
    Check.feed(x, (ONE + "!").getBytes());
    check.refused(x, "load(23)", x.load(23), 9);
    check.due("fault(0)", x.fault(0), 2);
    check.due("fault(1)", x.fault(1), 23);
    // A NUMBER of five digits of which the text has but four is none of five.
    FetchOrder y = new FetchOrder();
    Check.feed(y, "cold 12345;".getBytes());
    check.refused(y, "load(9)", y.load(9), 9);
    check.due("fault(0)", y.fault(0), 2);
    check.due("fault(1)", y.fault(1), 9);
  }

  // ---- Promise 3: the tape

  private static void tapeEmpty() {
    FetchOrder x = new FetchOrder();
    check.refused(x, "load(1) of an empty tape", x.load(1), 1);
    check.answered(x, "load(0) of an empty tape", x.load(0), 0);
    check.due("the first twenty", x.feed(BLANK, BLANK, BLANK, BLANK, BLANK), 20);
  }

  private static void tapeFull() {
    FetchOrder x = new FetchOrder();
    Check.feed(x, (" ".repeat(860) + ONE).getBytes());
    check.due("900", x.feed(BLANK, BLANK, BLANK, BLANK, BLANK), -1);
    check.due("again", x.feed(0x21212121, 0x21212121, 0x21212121, 0x21212121, 0x21212121), -1);
    check.due("it has no STATUS", x.status(), 0);
    check.refused(x, "load(901)", x.load(901), 1);
    check.answered(x, "what was on it is still", x.load(884), 1);
    check.due("empty again", x.feed(BLANK, BLANK, BLANK, BLANK, BLANK), 20);
    FetchOrder y = new FetchOrder();
    for (int i = 1; i <= 45; i++) {
      check.due("feed " + i, y.feed(BLANK, BLANK, BLANK, BLANK, BLANK), 20 * i);
    }
    check.due("feed 46", y.feed(BLANK, BLANK, BLANK, BLANK, BLANK), -1);
    check.answered(y, "load(900)", y.load(900), 0);
  }

  private static void highestByteFirst() {
    // Each of the twenty places in turn has the one byte that is no TOKEN.
    for (int at = 0; at < 20; at++) {
      int[] five = {BLANK, BLANK, BLANK, BLANK, BLANK};
      five[at / 4] = BLANK & ~(255 << 24 - 8 * (at % 4)) | 200 << 24 - 8 * (at % 4);
      FetchOrder x = new FetchOrder();
      check.due("feed", x.feed(five[0], five[1], five[2], five[3], five[4]), 20);
      check.refused(x, "load(20)", x.load(20), 9);
      check.due("place " + at, x.fault(1), at);
      check.due("kind", x.fault(0), 1);
    }
  }

  // ---- Promise 4: load

  private static void loadOfNone() {
    FetchOrder x = Check.of(ONE + "cold 5;page 99;kept 9;trace a;");
    Check.feed(x, ONE.getBytes());
    check.answered(x, "load(0)", x.load(0), 0);
    int[] due = {0, 0, 0, 0, 64, 4, 0, 0, 0, 0, 2};
    for (int what = 0; what <= 10; what++) {
      check.answered(x, "many(" + what + ")", x.many(what), due[what]);
    }
    check.refused(x, "the tape is empty then", x.load(1), 1);
    check.answered(x, "undo()", x.undo(), 1);
    check.answered(x, "many(4)", x.many(4), 99);
  }

  private static void loadOfAll() {
    FetchOrder x = new FetchOrder();
    Check.feed(x, (ONE + " ".repeat(16)).getBytes());
    check.answered(x, "load(40)", x.load(40), 1);
    FetchOrder y = new FetchOrder();
    Check.feed(y, (ONE + " ".repeat(15) + "!").getBytes());
    check.refused(y, "load(40)", y.load(40), 9);
    check.due("fault(1)", y.fault(1), 39);
    FetchOrder z = new FetchOrder();
    Check.feed(z, (ONE + " ".repeat(15) + "!").getBytes());
    check.answered(z, "load(39)", z.load(39), 1);
  }

  private static void loadBeyond() {
    FetchOrder x = new FetchOrder();
    Check.feed(x, ONE.getBytes());
    int[] beyond = {41, 60, 900, 901, Integer.MAX_VALUE, -1, -20, Integer.MIN_VALUE};
    for (int n : beyond) {
      check.refused(x, "load(" + n + ")", x.load(n), 1);
      check.due("no PROGRAM", x.many(0), 0);
      check.due("no ACT", x.many(10), 0);
      check.due("no load() yet", x.fault(0), -1);
    }
    check.answered(x, "load(24)", x.load(24), 1);
  }

  private static void loadLeavesAnEmptyTape() {
    FetchOrder x = Check.of(ONE);
    check.refused(x, "behind STATUS 0", x.load(1), 1);
    check.due("feed", x.feed(BLANK, BLANK, BLANK, BLANK, BLANK), 20);
    Check.load(x, "!");
    check.refused(x, "behind STATUS 9", x.load(1), 1);
    check.due("feed", x.feed(BLANK, BLANK, BLANK, BLANK, BLANK), 20);
    x.undo();
    check.due("undo() is not for the tape", x.feed(BLANK, BLANK, BLANK, BLANK, BLANK), 40);
  }

  private static void refusedLoadLeavesTheTape() {
    FetchOrder x = new FetchOrder();
    Check.feed(x, ONE.getBytes());
    x.load(41);
    x.load(-1);
    check.due("feed", x.feed(BLANK, BLANK, BLANK, BLANK, BLANK), 60);
    check.answered(x, "load(24)", x.load(24), 1);
  }

  // ---- Promise 5: fault

  private static void faultAheadOfAny() {
    FetchOrder x = new FetchOrder();
    int[] whats = {0, 1, 2, -1, Integer.MAX_VALUE, Integer.MIN_VALUE};
    for (int what : whats) {
      check.due("fault(" + what + ")", x.fault(what), -1);
    }
    x.load(1);
    check.due("one with STATUS 1 is none", x.fault(0), -1);
    check.due("one with STATUS 1 is none", x.fault(1), -1);
  }

  private static void faultOfOthers() {
    FetchOrder x = Check.of("   !");
    int[] whats = {2, -1, 3, Integer.MAX_VALUE, Integer.MIN_VALUE};
    for (int what : whats) {
      check.due("fault(" + what + ")", x.fault(what), -1);
    }
    check.due("fault(0)", x.fault(0), 1);
    check.due("fault(1)", x.fault(1), 3);
    check.due("it has no STATUS", x.status(), 9);
  }

  private static void faultOfTheLatest() {
    FetchOrder x = Check.of("!");
    check.due("a FAULT at place 0", x.fault(1), 0);
    Check.load(x, ONE);
    check.due("without one", x.fault(0), 0);
    check.due("without one", x.fault(1), -1);
    Check.load(x, "page 1;");
    check.due("the latest", x.fault(0), 4);
    check.due("the latest", x.fault(1), 5);
    x.load(1);
    x.set(0, 1);
    x.undo();
    x.undo();
    check.due("other calls leave it", x.fault(0), 4);
    check.due("other calls leave it", x.fault(1), 5);
    x.load(0);
    check.due("an empty text has none", x.fault(0), 0);
    check.due("an empty text has none", x.fault(1), -1);
  }
}
