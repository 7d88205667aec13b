import java.lang.reflect.Method;
import java.nio.file.Files;
import java.nio.file.Path;
import java.util.regex.Matcher;
import java.util.regex.Pattern;

/** Each example of README.md, line by line: a call answers the number that stands behind its //. */
public final class ReadmeExamples {
  private static final Pattern FEED = Pattern.compile("for \\(char c : \"([^\"]*)\"\\.toCharArray\\(\\)\\) x\\.feed\\(c\\);");
  private static final Pattern CALL = Pattern.compile("x\\.(\\w+)\\(([-0-9, ]*)\\); *// (-?\\d+): .+");
  private static final String MADE = "PromiseTries x = new PromiseTries();";
  private static int wrong = 0, asked = 0;

  private static void check(boolean so, String what) {
    if (!so) { wrong++; System.out.println(what); }
  }

  private static int call(PromiseTries x, String name, String numbers) throws ReflectiveOperationException {
    String[] words = numbers.isBlank() ? new String[0] : numbers.trim().split(" *, *");
    Class<?>[] types = new Class<?>[words.length];
    Object[] args = new Object[words.length];
    for (int i = 0; i < words.length; i++) {
      types[i] = int.class;
      args[i] = Integer.valueOf(words[i]);
    }
    Method m = PromiseTries.class.getMethod(name, types);
    return (Integer) m.invoke(x, args);
  }

  private static PromiseTries line(PromiseTries x, String text) throws ReflectiveOperationException {
    if (text.equals(MADE)) return new PromiseTries();
    Matcher feed = FEED.matcher(text), call = CALL.matcher(text);
    check(x != null, "no object yet: " + text);
    if (x == null) return null;
    if (feed.matches()) {
      for (char c : feed.group(1).toCharArray()) x.feed(c);
    } else if (call.matches()) {
      int got = call(x, call.group(1), call.group(2));
      asked++;
      check(got == Integer.parseInt(call.group(3)), text + " answered " + got);
    } else {
      check(false, "a line that is not understood: " + text);
    }
    return x;
  }

  public static void main(String[] args) throws Exception {
    boolean inside = false;
    int examples = 0;
    PromiseTries x = null;
    for (String text : Files.readAllLines(Path.of("README.md"))) {
      if (text.startsWith("```")) {
        inside = text.equals("```java");
        if (inside) examples++;
        x = null;
      } else if (inside) {
        x = line(x, text);
      }
    }
    check(examples >= 3 && asked >= 20, "too few examples were found: " + examples + " with " + asked + " answers");
    System.out.println(examples + " examples, " + asked + " answers asked, " + wrong + " not as due");
    if (wrong != 0) System.exit(1);
  }
}
