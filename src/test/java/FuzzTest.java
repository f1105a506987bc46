import java.nio.charset.StandardCharsets;
import java.util.Random;

/** Runs of calls by chance (with seeds that are always the same), answered by the class and by the model. */
public final class FuzzTest {
  private static final Check check = new Check("FuzzTest");
  private static final int RUNS = Integer.getInteger("runs", 500);

  private final Random random;
  private final FetchOrder x = new FetchOrder();
  private final Model y = new Model();
  private final StringBuilder told = new StringBuilder();

  private FuzzTest(long seed) {
    random = new Random(seed);
    told.append("seed ").append(seed).append(": ");
  }

  public static void main(String[] args) {
    long first = args.length > 0 ? Long.parseLong(args[0]) : 1;
    for (long seed = first; seed < first + RUNS; seed++) {
      new FuzzTest(seed).go();
    }
    check.finish();
  }

  private void due(String call, int got, int want) {
    check.due(told + call, got, want);
    check.due(told + call + " status", x.status(), y.status());
  }

  private int pick(int most) {
    return random.nextInt(most + 1);
  }

  /** Mostly a number that is, now and then one that is not. */
  private int near(int most) {
    int kind = random.nextInt(30);
    if (kind == 0) {
      return -1;
    }
    if (kind == 1) {
      return most + 1;
    }
    if (kind == 2) {
      return random.nextInt();
    }
    return pick(Math.max(0, most));
  }

  private int number() {
    int kind = random.nextInt(6);
    if (kind == 0) {
      return pick(9999);
    }
    return kind < 3 ? pick(3) : pick(kind * 50);
  }

  private String blank() {
    int kind = random.nextInt(12);
    return kind == 0 ? "\n" : kind == 1 ? "  " : " ";
  }

  private String name(int f) {
    String[] names = {"a", "b", "cc", "dd", "eeeeee", "f", "funs", "h"};
    return names[f & 7];
  }

  private String program() {
    StringBuilder t = new StringBuilder();
    int functions = random.nextInt(12) == 0 ? pick(9) : 1 + random.nextInt(6);
    for (int f = 0; f < functions; f++) {
      t.append("fun").append(blank()).append(name(f)).append(blank()).append(number()).append(';');
    }
    int blocks = random.nextInt(8) == 0 ? pick(41) : functions + pick(16);
    int[] many = new int[9];
    int[] owner = new int[60];
    for (int b = 0; b < blocks; b++) {
      owner[b] = b < functions ? b : pick(Math.max(0, functions - 1));
      many[owner[b]]++;
    }
    boolean bare = blocks > 22;
    for (int b = 0; b < blocks; b++) {
      if (random.nextInt(25) == 0) {
        t.append(setting(functions));
      }
      t.append("block ").append(name(owner[b])).append(blank()).append(1 + random.nextInt(bare ? 9 : 99));
      for (int c = bare ? 2 : random.nextInt(3); c < 2 && functions > 0; c++) {
        t.append(" call ").append(name(pick(functions - 1)));
      }
      t.append(end(many[owner[b]], bare)).append(';');
    }
    if (random.nextInt(2) == 0) {
      t.append(setting(functions));
    }
    return t.toString();
  }

  private String setting(int functions) {
    switch (random.nextInt(4)) {
      case 0:
        return "cold " + pick(120) + ";";
      case 1:
        return "page " + (16 + pick(200)) + ";";
      case 2:
        return "kept " + (1 + pick(6)) + ";";
      default:
        StringBuilder t = new StringBuilder("trace");
        int start = pick(functions);
        for (int f = start; f < Math.min(functions, start + 1 + pick(4)); f++) {
          t.append(' ').append(name(f));
        }
        return t.append(';').toString();
    }
  }

  private String end(int blocks, boolean bare) {
    int kind = random.nextInt(5);
    int to = random.nextInt(120) == 0 ? blocks : pick(Math.max(0, blocks - 1));
    int other = pick(Math.max(0, blocks - 1));
    if (kind == 0) {
      return (bare ? "ret" : " ret") + number();
    }
    if (kind < 3 || bare && kind < 4) {
      return (bare ? "go" : " go") + to + " " + number();
    }
    return blank() + "if " + to + " " + number() + " else " + other + " " + number();
  }

  private String spoilt(String text) {
    if (text.isEmpty() || random.nextInt(4) != 0) {
      return text;
    }
    StringBuilder t = new StringBuilder(text);
    String[] parts = {"fun", "block", "call a", "ret", "go", "if", "else", "cold 5;", "page 15;", "kept 17;", "trace a a",
      ";", "0", "99", "100", "12345", "!", "A", "\u00e9", "\t", "abcdefg", "", " ", "40", "page 512;", "kept 16;",
      "trace b;", "trace zz;", "page", "kept 0;"};
    int at = pick(t.length() - 1);
    switch (random.nextInt(4)) {
      case 0:
        t.setLength(at);
        break;
      case 1:
        t.delete(at, Math.min(t.length(), at + 1 + pick(6)));
        break;
      case 2:
        int sign = t.indexOf(";", at);
        t.insert(sign < 0 ? at : sign + 1, parts[pick(parts.length - 1)]);
        break;
      default:
        t.insert(at, parts[pick(parts.length - 1)]);
    }
    return t.toString();
  }

  private void load() {
    byte[] bytes = spoilt(program()).getBytes(StandardCharsets.ISO_8859_1);
    int n = bytes.length;
    for (int i = 0; i < n; i += 20) {
      int[] five = new int[5];
      for (int j = 0; j < 20; j++) {
        five[j / 4] = five[j / 4] << 8 | (i + j < n ? bytes[i + j] & 255 : 32);
      }
      due("feed", x.feed(five[0], five[1], five[2], five[3], five[4]),
          y.feed(five[0], five[1], five[2], five[3], five[4]));
    }
    int told = random.nextInt(40) == 0 ? pick(n) : random.nextInt(60) == 0 ? 901 : Math.min(n, 900);
    due("load " + new String(bytes, StandardCharsets.ISO_8859_1), x.load(told), y.load(told));
    for (int what = -1; what < 3; what++) {
      due("fault(" + what + ")", x.fault(what), y.fault(what));
    }
  }

  private void go() {
    for (int i = 0; i < 5 && y.many(1) + 0 * x.many(1) == 0; i++) {
      load();
    }
    for (int i = 0; i < 110; i++) {
      if (random.nextInt(40) == 0) {
        load();
      } else if (random.nextInt(5) == 0) {
        actCall();
      } else {
        askCall();
      }
    }
  }

  private int functions() {
    return Math.max(0, y.many(0) + 0 * x.many(0) - 1);
  }

  private int blocks() {
    return Math.max(0, y.many(1) + 0 * x.many(0) - 1);
  }

  private int arcs() {
    return Math.max(0, y.many(2) + 0 * x.many(0) - 1);
  }

  private void actCall() {
    int p = near(arcs());
    int b = near(blocks());
    int q = near(blocks());
    int c = random.nextInt(30) == 0 ? random.nextInt(10100) - 50 : number();
    int h = near(3);
    int w = near(2);
    int much = w == 0 ? near(200) : w == 1 ? 16 + near(300) : near(16);
    switch (random.nextInt(6)) {
      case 0: case 1:
        due("count(" + p + "," + c + ")", x.count(p, c), y.count(p, c));
        break;
      case 2:
        due("set(" + w + "," + much + ")", x.set(w, much), y.set(w, much));
        break;
      case 3:
        due("take(" + h + ")", x.take(h), y.take(h));
        break;
      case 4:
        due("move(" + b + "," + q + ")", x.move(b, q), y.move(b, q));
        break;
      default:
        due("undo()", x.undo(), y.undo());
    }
  }

  private void askCall() {
    int f = near(functions());
    int g = near(functions());
    int b = near(blocks());
    int p = near(blocks());
    int a = near(arcs());
    int h = near(4);
    int w = near(5);
    int steps = near(200);
    int seed = near(9999);
    switch (random.nextInt(16)) {
      case 0: due("many", x.many(w + 5), y.many(w + 5)); break;
      case 1: due("function(" + f + "," + w + ")", x.function(f, w), y.function(f, w)); break;
      case 2: due("function(" + f + "," + (w + 3) + ")", x.function(f, w + 3), y.function(f, w + 3)); break;
      case 3: due("block(" + b + "," + w + ")", x.block(b, w), y.block(b, w)); break;
      case 4: due("block(" + b + "," + (w + 4) + ")", x.block(b, w + 4), y.block(b, w + 4)); break;
      case 5: due("arc(" + a + "," + w + ")", x.arc(a, w), y.arc(a, w)); break;
      case 6: due("weight(" + f + "," + g + ")", x.weight(f, g), y.weight(f, g)); break;
      case 7: due("order(" + h + "," + p + ")", x.order(h, p), y.order(h, p)); break;
      case 8: due("place(" + h + "," + b + "," + w + ")", x.place(h, b, w), y.place(h, b, w)); break;
      case 9: due("falls(" + h + "," + a + ")", x.falls(h, a), y.falls(h, a)); break;
      case 10: due("cost(" + h + "," + w + ")", x.cost(h, w), y.cost(h, w)); break;
      case 11: due("jumps(" + h + "," + f + ")", x.jumps(h, f), y.jumps(h, f)); break;
      case 12: due("least(" + f + ")", x.least(f), y.least(f)); break;
      case 13: due("run(" + h + "," + f + "," + steps + "," + seed + "," + w + ")",
          x.run(h, f, steps, seed, w % 4), y.run(h, f, steps, seed, w % 4)); break;
      case 14: due("moved(" + b + "," + p + ")", x.moved(b, p), y.moved(b, p)); break;
      default:
        if (random.nextInt(3) == 0) {
          due("best(" + w + ")", x.best(w), y.best(w));
        } else {
          due("enough(" + a + ")", x.enough(a), y.enough(a));
        }
    }
  }
}
