import java.lang.management.ManagementFactory;
import java.lang.reflect.Constructor;
import java.lang.reflect.Field;
import java.lang.reflect.Method;
import java.lang.reflect.Modifier;
import java.nio.file.Files;
import java.nio.file.Path;
import java.util.Set;
import java.util.TreeSet;
import java.util.regex.Matcher;
import java.util.regex.Pattern;

/** The document's public face, and those rules of LANGUAGE.md that can be read off the class and its source. */
public final class FaceAndLanguage {
  private static int wrong = 0;

  private static final String[] FACE = {
    "feed(int)", "end(int)", "text()", "fault()", "rule(int)", "promise(int,int)", "fulfils(int,int,int,int)",
    "fulfilled(int,int,int)", "matches(int,int,int,int)", "might(int,int,int)", "tick(int)", "bits(int)", "put(int,int)",
    "keeps(int)", "draw(int,int)", "verdict(int,int)", "decided(int,int)", "duties(int,int)", "duty(int,int,int,int)",
    "tries(int,int)", "first(int,int)", "keep(int)", "back(int)", "sheet(int,int,int)", "lay(int,int,int)",
    "run(int,int,int,int)", "torn()", "count(int)"
  };

  private static void check(boolean so, String what) {
    if (!so) { wrong++; System.out.println(what); }
  }

  private static String shape(Method m) {
    StringBuilder s = new StringBuilder(m.getName()).append('(');
    for (Class<?> c : m.getParameterTypes()) s.append(s.charAt(s.length() - 1) == '(' ? "" : ",").append(c.getName());
    return s.append(')').toString();
  }

  private static void face() {
    Class<?> c = PromiseTries.class;
    check(Modifier.isPublic(c.getModifiers()) && Modifier.isFinal(c.getModifiers()), "the class is not public and final");
    Set<String> due = new TreeSet<>(java.util.Arrays.asList(FACE)), names = new TreeSet<>();
    for (Method m : c.getDeclaredMethods()) {
      if (Modifier.isPrivate(m.getModifiers())) continue;
      check(due.remove(shape(m)) && m.getReturnType() == int.class && Modifier.isPublic(m.getModifiers())
          && !Modifier.isStatic(m.getModifiers()), "not of the face: " + m);
      names.add(m.getName());
    }
    check(due.isEmpty(), "missing in the face: " + due);
    for (Constructor<?> k : c.getDeclaredConstructors())
      check(Modifier.isPublic(k.getModifiers()) && k.getParameterCount() == 0, "not of the face: " + k);
    for (Field f : c.getDeclaredFields()) {
      if (Modifier.isPrivate(f.getModifiers())) continue;
      check(Set.of("BAD", "STATE", "FULL", "NONE").contains(f.getName()) && Modifier.isPublic(f.getModifiers())
          && Modifier.isStatic(f.getModifiers()) && Modifier.isFinal(f.getModifiers()), "not of the face: " + f);
    }
    check(c.getDeclaredClasses().length <= 11, "more than twelve classes");
    membersOf(c, names);
    for (Class<?> n : c.getDeclaredClasses()) {
      check(Modifier.isStatic(n.getModifiers()) && !Modifier.isPublic(n.getModifiers())
          && !Modifier.isProtected(n.getModifiers()), "not private or package-visible and static: " + n);
      membersOf(n, names);
    }
  }

  private static void membersOf(Class<?> c, Set<String> faceNames) {
    int fields = 0;
    for (Field f : c.getDeclaredFields()) {
      if (!Modifier.isStatic(f.getModifiers())) fields++;
      else check(Modifier.isFinal(f.getModifiers()), "a static field that is not final: " + f);
    }
    check(fields <= 20, "more than twenty fields: " + c);
    for (Method m : c.getDeclaredMethods()) {
      check(m.getParameterCount() <= 7, "more than seven parameters: " + m);
      boolean ofFace = c == PromiseTries.class && Modifier.isPublic(m.getModifiers());
      check(ofFace || !faceNames.contains(m.getName()), "bears the name of a public method: " + m);
    }
  }

  private static String withoutComments(String source) {
    return source.replaceAll("(?s)/\\*.*?\\*/", "").replaceAll("//[^\n]*", "");
  }

  private static void language(String source) {
    String[] never = {
      "\\b(throw|throws|try|catch|finally|synchronized|assert|import|package|instanceof|var|yield|volatile|transient)\\b",
      "->", "::", "\\bstatic\\s*\\{", "Exact\\b", "\\b(hashCode|toString|equals|System\\.(?!arraycopy)|Thread|Random|Class)\\b",
      "\\bwhile\\s*\\(\\s*true\\s*\\)", "for\\s*\\(\\s*;", "\"", "\\b(double|float|Object)\\b", "\\[\\]\\[\\]\\["
    };
    for (String bad : never) {
      Matcher m = Pattern.compile(bad).matcher(source);
      if (m.find()) check(false, "a form that is not allowed: " + m.group() + " (" + bad + ")");
    }
    for (int i = 0; i < source.length(); i++)
      check(source.charAt(i) == '\n' || source.charAt(i) >= 32 && source.charAt(i) < 127, "a sign that is not plain at " + i);
    methodsAreShort(source);
    libraryIsListed(source);
  }

  // Rule 4: of the library only what stands there; names within the class are its own classes'.
  private static void libraryIsListed(String source) {
    Set<String> own = new TreeSet<>(), listed = Set.of("System.arraycopy", "Arrays.copyOf", "Arrays.copyOfRange", "Arrays.fill");
    for (Class<?> c : PromiseTries.class.getDeclaredClasses()) own.add(c.getSimpleName());
    Matcher used = Pattern.compile("\\b([A-Z][a-z]\\w*)\\.(\\w+)").matcher(source);
    while (used.find())
      check(own.contains(used.group(1)) || listed.contains(used.group()) || isFunctionOfNumbers(used.group(1), used.group(2)),
          "not of the listed library: " + used.group());
    Matcher made = Pattern.compile("\\bnew (\\w+)").matcher(source);
    while (made.find())
      check(own.contains(made.group(1)) || Set.of("int", "long", "byte", "boolean").contains(made.group(1)),
          "not of the listed types: " + made.group());
  }

  // "the static functions of Integer, Long and Math over int and long .. none of those whose name ends in Exact"
  private static boolean isFunctionOfNumbers(String type, String name) {
    if (name.endsWith("Exact")) return false;
    Class<?> c = type.equals("Math") ? Math.class : type.equals("Long") ? Long.class : type.equals("Integer") ? Integer.class : null;
    if (c == null) return false;
    for (Method m : c.getMethods()) {
      boolean numbers = m.getName().equals(name) && Modifier.isStatic(m.getModifiers());
      for (Class<?> t : m.getParameterTypes()) numbers &= t == int.class || t == long.class;
      if (numbers && (m.getReturnType() == int.class || m.getReturnType() == long.class)) return true;
    }
    return false;
  }

  private static void methodsAreShort(String source) {
    Matcher m = Pattern.compile("(?m)^( +)[^\\n=;]*\\)\\s*\\{\\n").matcher(source);
    while (m.find()) {
      if (m.group(1).length() > 8) continue;
      int end = source.indexOf("\n" + m.group(1) + "}", m.end());
      int lines = end < 0 ? 1000 : source.substring(m.start(), end + 1).split("\n").length + 1;
      check(lines <= 60, "longer than sixty lines: " + m.group().trim());
    }
  }

  private static int aRun() {
    PromiseTries x = new PromiseTries();
    return calls(x);
  }

  private static int calls(PromiseTries x) {
    String text = "a,{b/c,d}*2 3>!!(a|b)*1 9,c*0 1~a&b;a*1 9=b;a=c;b>c;";
    int sum = 0;
    for (int k = 0; k < 2; k++) {
      for (int i = 0; i < text.length(); i++) sum += x.feed(text.charAt(i));
      sum += x.text() + x.draw(k, 20) + x.keep(0) + x.sheet(k, k, 40) + x.lay(k, 1, 3) + x.run(k, k, 0, 20);
      for (int i = 0; i < 48; i++) sum += x.put(i, (i * 37 + k) & 255) + x.rule(i & 7) + x.verdict(i & 3, i);
      sum += x.back(0) + x.tick(3) + x.matches(0, 0, 0, 5) + x.might(0, 1, 3) + x.duty(1, 0, 0, 2) + x.fault() + x.torn();
    }
    return sum;
  }

  /** Rows are made in the constructor and used again: no call makes an object. */
  private static void room() {
    com.sun.management.ThreadMXBean meter = (com.sun.management.ThreadMXBean) ManagementFactory.getThreadMXBean();
    long me = Thread.currentThread().getId();
    int sum = aRun() + aRun();
    meter.getThreadAllocatedBytes(me);
    long start = meter.getThreadAllocatedBytes(me);
    PromiseTries x = new PromiseTries();
    long made = meter.getThreadAllocatedBytes(me);
    sum += calls(x);
    long called = meter.getThreadAllocatedBytes(me);
    long none = meter.getThreadAllocatedBytes(me) - called;
    System.out.println("a new object: " + (made - start) + " bytes; its calls: " + (called - made - none) + " bytes (" + sum + ")");
    check(made - start < 100_000, "a new object takes too much room");
    check(called - made - none < 512, "calls make objects");
  }

  public static void main(String[] args) throws Exception {
    face();
    language(withoutComments(Files.readString(Path.of(args[0]))));
    room();
    System.out.println(wrong == 0 ? "the face and the language are as due" : wrong + " rules are broken");
    if (wrong != 0) System.exit(1);
  }
}
