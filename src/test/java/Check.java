import java.nio.charset.StandardCharsets;

/** What every test of the project uses: a count of wrong answers, and texts put on a tape. */
final class Check {
  private final String name;
  private int asked;
  private int wrong;

  Check(String name) {
    this.name = name;
  }

  void due(String call, long got, long want) {
    asked++;
    if (got != want) {
      wrong++;
      if (wrong <= 40) {
        System.out.println(name + ": " + call + " answered " + got + ", due is " + want);
      }
    }
  }

  /** The call gives NONE, with a STATUS. */
  void refused(FetchOrder x, String call, int got, int status) {
    due(call, got, FetchOrder.NONE);
    due(call + ": status()", x.status(), status);
  }

  /** The call gives an answer, with STATUS 0. */
  void answered(FetchOrder x, String call, int got, int want) {
    due(call, got, want);
    due(call + ": status()", x.status(), 0);
  }

  /** A text that is a PROGRAM of so many BLOCKS. */
  FetchOrder fits(String text, int blocks) {
    FetchOrder x = new FetchOrder();
    answered(x, text, load(x, text), blocks);
    due(text + ": fault(0)", x.fault(0), 0);
    due(text + ": fault(1)", x.fault(1), FetchOrder.NONE);
    return x;
  }

  /** A text with a FAULT of a kind at a place. */
  void faulty(String text, int kind, int place) {
    FetchOrder x = new FetchOrder();
    refused(x, text, load(x, text), 9);
    due(text + ": fault(0)", x.fault(0), kind);
    due(text + ": fault(1)", x.fault(1), place);
    due(text + ": no FUNCTIONS", x.many(0), 0);
    due(text + ": nothing to undo", x.many(10), 0);
  }

  void finish() {
    System.out.println(name + ": " + asked + " answers, " + wrong + " wrong");
    if (wrong != 0) {
      System.exit(1);
    }
  }

  static void feed(FetchOrder x, byte[] bytes) {
    for (int i = 0; i < bytes.length; i += 20) {
      x.feed(four(bytes, i), four(bytes, i + 4), four(bytes, i + 8), four(bytes, i + 12), four(bytes, i + 16));
    }
  }

  static int load(FetchOrder x, String text) {
    byte[] bytes = text.getBytes(StandardCharsets.ISO_8859_1);
    feed(x, bytes);
    return x.load(bytes.length);
  }

  static FetchOrder of(String text) {
    FetchOrder x = new FetchOrder();
    load(x, text);
    return x;
  }

  private static int four(byte[] bytes, int at) {
    int all = 0;
    for (int i = at; i < at + 4; i++) {
      all = all << 8 | (i < bytes.length ? bytes[i] & 255 : 0);
    }
    return all;
  }
}
