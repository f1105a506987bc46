import java.io.IOException;
import java.lang.reflect.Constructor;
import java.lang.reflect.Field;
import java.lang.reflect.Method;
import java.lang.reflect.Modifier;
import java.nio.file.Files;
import java.nio.file.Path;
import java.util.Arrays;
import java.util.Set;
import java.util.TreeSet;
import java.util.regex.Matcher;
import java.util.regex.Pattern;

/** The rules of ../shared/LANGUAGE.md that can be seen without understanding the code. */
public final class LanguageTest {
  private static final Check check = new Check("LanguageTest");
  private static final Set<String> FACE = new TreeSet<>(Arrays.asList("status()", "feed(int,int,int,int,int)",
      "load(int)", "fault(int)", "many(int)", "function(int,int)", "block(int,int)", "arc(int,int)", "weight(int,int)",
      "order(int,int)", "place(int,int,int)", "falls(int,int)", "cost(int,int)", "jumps(int,int)", "least(int)",
      "run(int,int,int,int,int)", "count(int,int)", "set(int,int)", "take(int)", "move(int,int)", "undo()",
      "moved(int,int)", "best(int)", "enough(int)"));

  public static void main(String[] args) throws IOException {
    face();
    classesInside();
    String code = Files.readString(Path.of("src/main/java/FetchOrder.java"));
    ascii(code);
    String bare = code.replaceAll("(?s)/\\*.*?\\*/", " ").replaceAll("//[^\n]*", " ");
    words(bare);
    library(bare);
    methodLengths(bare);
    check.finish();
  }

  private static void holds(String rule, boolean holds) {
    check.due(rule, holds ? 1 : 0, 1);
  }

  private static void face() {
    Set<String> found = new TreeSet<>();
    Set<String> publicNames = new TreeSet<>();
    for (Method m : FetchOrder.class.getDeclaredMethods()) {
      if (Modifier.isPublic(m.getModifiers())) {
        holds("int " + m, m.getReturnType() == int.class);
        found.add(m.getName() + Arrays.toString(m.getParameterTypes()).replaceAll("[\\[\\] ]", "")
            .replaceAll("^", "(") + ")");
        publicNames.add(m.getName());
      } else {
        holds("private " + m, Modifier.isPrivate(m.getModifiers()));
      }
    }
    holds("the face is " + found, found.equals(FACE));
    for (Field f : FetchOrder.class.getDeclaredFields()) {
      holds("field " + f, Modifier.isPrivate(f.getModifiers()) || f.getName().equals("NONE"));
    }
    Constructor<?>[] made = FetchOrder.class.getDeclaredConstructors();
    holds("one constructor", made.length == 1 && Modifier.isPublic(made[0].getModifiers()));
    for (Class<?> c : allClasses()) {
      for (Method m : c.getDeclaredMethods()) {
        boolean own = c == FetchOrder.class && Modifier.isPublic(m.getModifiers());
        holds("no other method bears a name of the face: " + m, own || !publicNames.contains(m.getName()));
        holds("at most seven parameters: " + m, m.getParameterCount() <= 7);
      }
    }
  }

  private static Class<?>[] allClasses() {
    Class<?>[] inside = FetchOrder.class.getDeclaredClasses();
    Class<?>[] all = Arrays.copyOf(inside, inside.length + 1);
    all[inside.length] = FetchOrder.class;
    return all;
  }

  private static void classesInside() {
    Class<?>[] all = allClasses();
    holds("some twelve classes: " + all.length, all.length <= 12);
    for (Class<?> c : all) {
      int fields = 0;
      for (Field f : c.getDeclaredFields()) {
        if (Modifier.isStatic(f.getModifiers())) {
          holds("static is final: " + f, Modifier.isFinal(f.getModifiers()));
        } else {
          fields++;
        }
      }
      holds("some twenty fields: " + c + " " + fields, fields <= 20);
      holds("static and not public: " + c,
          c == FetchOrder.class || Modifier.isStatic(c.getModifiers()) && !Modifier.isPublic(c.getModifiers()));
    }
  }

  private static void ascii(String code) {
    holds("signs 1 to 127", code.chars().allMatch(c -> c > 0 && c < 128));
  }

  private static void words(String bare) {
    String[] none = {"throw", "throws", "try", "catch", "finally", "synchronized", "assert", "import", "package",
      "protected", "native", "volatile", "transient", "var", "goto", "hashCode", "toString", "instanceof"};
    for (String word : none) {
      holds("no " + word, !Pattern.compile("\\b" + word + "\\b").matcher(bare).find());
    }
    holds("no lambda", !bare.contains("->"));
    holds("no method reference", !bare.contains("::"));
    holds("no annotation", !bare.contains("@"));
    holds("no endless loop", !Pattern.compile("while\\s*\\(\\s*true|for\\s*\\(\\s*;\\s*;").matcher(bare).find());
    holds("no static block", !Pattern.compile("\\bstatic\\s*\\{").matcher(bare).find());
  }

  private static void library(String bare) {
    Matcher m = Pattern.compile("\\b(System|Math|Arrays|Integer|Long|Character|String|List|ArrayList|Objects)\\b(\\.\\w+)?")
        .matcher(bare);
    Set<String> fine = new TreeSet<>(Arrays.asList("System.arraycopy", "Math.max", "Math.min", "Math.abs"));
    while (m.find()) {
      holds("of the library: " + m.group(), fine.contains(m.group()));
    }
  }

  private static void methodLengths(String bare) {
    Matcher m = Pattern.compile("(?m)^( +)(?:public|private|static|final|int|void|boolean)[^;=\n]*\\([^;\n]*\\) \\{$")
        .matcher(bare);
    int methods = 0;
    while (m.find()) {
      methods++;
      int end = bare.indexOf("\n" + m.group(1) + "}", m.end());
      long lines = bare.substring(m.start(), end).lines().count();
      holds("some sixty lines at most: " + m.group().trim(), lines <= 60);
    }
    holds("methods were found", methods > 100);
  }
}
