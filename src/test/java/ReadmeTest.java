import java.io.IOException;
import java.lang.reflect.Method;
import java.lang.reflect.Modifier;
import java.nio.file.DirectoryStream;
import java.nio.file.Files;
import java.nio.file.Path;
import java.util.ArrayList;
import java.util.List;
import java.util.regex.Matcher;
import java.util.regex.Pattern;

/** README.md must not tell what does not hold. */
public final class ReadmeTest {
  private static final Check check = new Check("ReadmeTest");

  public static void main(String[] args) throws IOException {
    String page = Files.readString(Path.of("README.md"));
    example(page);
    text(page);
    faultEmptiesTheTape(page);
    namesEveryCall(page);
    namesEveryTest(page);
    check.finish();
  }

  private static void holds(String what, boolean holds) {
    check.due(what, holds ? 1 : 0, 1);
  }

  /** The numbers are taken from the page itself, so that the page can't drift away from this test. */
  private static void example(String page) {
    FetchOrder x = new FetchOrder();
    Matcher m = Pattern.compile("x\\.feed\\(([^)]*)\\)").matcher(page);
    int fed = 0;
    while (m.find()) {
      List<Integer> fours = new ArrayList<>();
      for (String four : m.group(1).split(", ")) {
        fours.add(Integer.decode(four));
      }
      fed += 20;
      check.due("feed", x.feed(fours.get(0), fours.get(1), fours.get(2), fours.get(3), fours.get(4)), fed);
    }
    check.due("two rows of twenty bytes", fed, 40);
    int[] load = callOf(page, "load\\((\\d+)\\);\\s*// (\\d+)");
    check.answered(x, "load", x.load(load[0]), load[1]);
    int[] cost = callOf(page, "cost\\((\\d+), 0\\);\\s*// (\\d+)");
    check.answered(x, "cost", x.cost(cost[0], 0), cost[1]);
  }

  private static int[] callOf(String page, String form) {
    Matcher m = Pattern.compile(form).matcher(page);
    if (!m.find()) {
      holds(form + " stands on the page", false);
      return new int[] {0, 0};
    }
    return new int[] {Integer.parseInt(m.group(1)), Integer.parseInt(m.group(2))};
  }

  private static void text(String page) {
    int start = page.indexOf("```text\n") + 8;
    String told = page.substring(start, page.indexOf("```", start));
    FetchOrder x = check.fits(told.replaceAll(";   +[^\n]*", ";"), 3);
    check.answered(x, "block 0 is an EITHER", x.block(0, 2), 2);
    check.answered(x, "of 10 bytes", x.block(0, 1), 10);
    check.answered(x, "by a jump to block 1", x.arc(x.block(0, 3), 1), 1);
    check.answered(x, "90 times", x.arc(x.block(0, 3), 2), 90);
    check.answered(x, "on to block 2", x.arc(x.block(0, 3) + 1, 1), 2);
    check.answered(x, "block 1 calls a", x.block(1, 8), 0);
    check.answered(x, "and goes to block 2", x.arc(x.block(1, 3), 1), 2);
    check.answered(x, "block 2 returns", x.block(2, 2), 0);
    check.answered(x, "cold", x.many(3), 5);
    check.answered(x, "trace", x.function(0, 7), 0);
  }

  private static void faultEmptiesTheTape(String page) {
    holds("the page tells what a load with status 9 changes",
        page.replaceAll("\\s+", " ").contains("but for a `load` with status 9: the tape is empty then"));
    FetchOrder x = new FetchOrder();
    check.refused(x, "load of a fault", Check.load(x, "fun a 1;"), 9);
    check.due("fault(0)", x.fault(0), 7);
    check.refused(x, "the tape is empty then", x.load(1), 1);
    check.due("feed", x.feed(0, 0, 0, 0, 0), 20);
    check.due("feed leaves the status", x.status(), 1);
  }

  private static void namesEveryCall(String page) {
    for (Method m : FetchOrder.class.getDeclaredMethods()) {
      if (Modifier.isPublic(m.getModifiers())) {
        holds("the page names " + m.getName(), page.contains("`" + m.getName() + "`"));
      }
    }
  }

  private static void namesEveryTest(String page) throws IOException {
    try (DirectoryStream<Path> tests = Files.newDirectoryStream(Path.of("src/test/java"), "*Test.java")) {
      for (Path test : tests) {
        String name = test.getFileName().toString().replace(".java", "");
        holds("the page names " + name, page.contains("| " + name + " |"));
      }
    }
  }
}
