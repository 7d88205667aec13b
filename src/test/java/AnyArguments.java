import java.lang.reflect.InvocationTargetException;
import java.lang.reflect.Method;
import java.lang.reflect.Modifier;

/** No call ever throws, for any arguments in any state, and none answers a number that the document does not know. */
public final class AnyArguments {
  private static final int[] EDGES = {
    Integer.MIN_VALUE, Integer.MIN_VALUE + 1, -65536, -257, -10, -2, -1, 0, 1, 2, 3, 4, 5, 8, 9, 10, 20, 21, 39, 40, 41, 46, 47,
    48, 49, 97, 127, 128, 199, 200, 201, 255, 256, 65535, 65536, Integer.MAX_VALUE - 1, Integer.MAX_VALUE
  };
  private static int wrong = 0;
  private static long calls = 0;

  private static PromiseTries state(int which) {
    PromiseTries x = new PromiseTries();
    String[] texts = {"", "a=b;", "a,{b/c}*1 2>!(a|b)*0 9,c~h;(a&!a)=b;", "{a*1 5}*1 8={a/b,c/d,e}*8 8;a>b;b>c,d;c=d~a|b;"};
    int[] ticks = {0, 1, 20, 48};
    for (char c : texts[which].toCharArray()) x.feed(c);
    x.text();
    for (int t = 0; t < ticks[which]; t++) x.tick(t * 37 & 255);
    for (int k = 0; k < which; k++) {
      x.sheet(k, k % 3, which == 3 ? 40 : k);
      x.keep(k);
    }
    for (int i = 0; i < 66 * which; i++) x.feed(i < 100 ? ' ' : "a=b;".charAt(i % 4));
    return x;
  }

  private static boolean changes(Method m) {
    return "feed end text tick put keeps draw keep back sheet lay run".contains(m.getName());
  }

  private static void ask(Method m, int which) throws IllegalAccessException {
    int n = m.getParameterCount(), all = 1;
    for (int i = 0; i < n; i++) all *= EDGES.length;
    PromiseTries x = state(which);
    for (int k = 0; k < all; k++) {
      Object[] args = new Object[n];
      for (int i = 0, rest = k; i < n; i++, rest /= EDGES.length) args[i] = EDGES[rest % EDGES.length];
      // A call that changes the object is tried on it as it was, again and again, but not so often that it takes long.
      if (changes(m) && k % 97 == 0) x = state(which);
      calls++;
      try {
        int answer = (Integer) m.invoke(x, args);
        if (answer < -10 - 200 || answer < -4 && answer > -10) fail(m, args, which, "answered " + answer);
      } catch (InvocationTargetException e) {
        fail(m, args, which, "threw " + e.getCause());
      }
    }
  }

  private static void fail(Method m, Object[] args, int which, String how) {
    wrong++;
    if (wrong < 30) System.out.println(m.getName() + java.util.Arrays.toString(args) + " in state " + which + " " + how);
  }

  /** Every call behind every other one, by edges that are taken in turn, on one object. */
  private static void mixed(int seed) throws IllegalAccessException {
    java.util.Random r = new java.util.Random(seed);
    PromiseTries x = state(r.nextInt(4));
    Method[] methods = PromiseTries.class.getMethods();
    for (int k = 0; k < 512; k++) {
      Method m = methods[r.nextInt(methods.length)];
      if (m.getDeclaringClass() != PromiseTries.class || Modifier.isStatic(m.getModifiers())) continue;
      Object[] args = new Object[m.getParameterCount()];
      for (int i = 0; i < args.length; i++) args[i] = r.nextInt(3) == 0 ? r.nextInt() : EDGES[r.nextInt(EDGES.length)];
      calls++;
      try {
        m.invoke(x, args);
      } catch (InvocationTargetException e) {
        fail(m, args, seed, "threw " + e.getCause());
      }
    }
  }

  public static void main(String[] args) throws Exception {
    for (Method m : PromiseTries.class.getMethods())
      if (m.getDeclaringClass() == PromiseTries.class)
        for (int which = 0; which < 4; which++) ask(m, which);
    for (int seed = 0; seed < 500; seed++) mixed(seed);
    System.out.println(calls + " calls, " + wrong + " not as due");
    if (wrong != 0) System.exit(1);
  }
}
