import java.util.ArrayList;
import java.util.List;

/**
 * The document read again, sentence by sentence: each method holds one sentence that names a boundary (its words stand
 * above it), and tries what is just inside and just outside of it. The name of each answer begins with its promise.
 */
public final class Boundaries {
  private static final int BAD = -1, STATE = -2, FULL = -3, NONE = -4;
  private static final int LOW = Integer.MIN_VALUE, HIGH = Integer.MAX_VALUE;
  private static int wrong = 0;
  private static int asked = 0;

  private interface Call { int on(PromiseTries x); }

  private static void due(String what, int got, int want) {
    asked++;
    if (got != want) { wrong++; System.out.println(what + ": answered " + got + ", due is " + want); }
  }

  private static void dueAll(String what, int want, int... got) {
    for (int i = 0; i < got.length; i++) due(what + ", " + i, got[i], want);
  }

  private static void feedAll(PromiseTries x, String text) {
    for (int i = 0; i < text.length(); i++) x.feed(text.charAt(i));
  }

  private static int tell(PromiseTries x, String text) {
    feedAll(x, text);
    return x.text();
  }

  private static PromiseTries told(String text, int... ticks) {
    PromiseTries x = new PromiseTries();
    int n = tell(x, text);
    if (n < 0) due("a text without fault: [" + text + "]", n, 1);
    for (int bits : ticks) x.tick(bits);
    return x;
  }

  private static void taken(String text, int promises) {
    PromiseTries x = new PromiseTries();
    due("4 text() of [" + text + "]", tell(x, text), promises);
    due("5 fault() of [" + text + "]", x.fault(), 0);
    due("4 PROMISES of [" + text + "]", x.rule(0), promises);
  }

  private static void faulty(String text, int place, int fault) {
    PromiseTries x = new PromiseTries();
    due("4 text() of [" + text + "]", tell(x, text), -10 - place);
    due("5 fault() of [" + text + "]", x.fault(), fault);
    due("4 PROMISES of [" + text + "]", x.rule(0), 0);
  }

  private static String times(String s, int n) { return s.repeat(n); }

  private static int[] all(int n, int bits) {
    int[] ticks = new int[n];
    java.util.Arrays.fill(ticks, bits);
    return ticks;
  }

  // ================================================================ Terms: answers

  // "BAD .., STATE .., FULL -3, NONE -4 (there is none), the first that fits"
  private static void theFirstThatFits() {
    PromiseTries x = told("a=b;", all(48, 0));
    feedAll(x, times(" ", 200));
    due("2 BAD ahead of FULL", x.feed(-1), BAD);
    due("2 BAD ahead of FULL, above", x.feed(128), BAD);
    due("2 FULL", x.feed(0), FULL);
    due("12 BAD ahead of FULL", x.tick(-1), BAD);
    due("12 BAD ahead of FULL, above", x.tick(256), BAD);
    due("12 FULL", x.tick(0), FULL);
    due("16 BAD ahead of FULL", x.draw(0, 0), BAD);
    due("16 BAD ahead of FULL, above", x.draw(0, 21), BAD);
    due("16 FULL", x.draw(0, 1), FULL);
    due("24 BAD ahead of STATE", x.back(2), BAD);
    due("24 STATE", x.back(1), STATE);
    due("18 BAD, not NONE", x.decided(0, 48), BAD);
    due("20 BAD ahead of NONE: what", x.duty(0, 0, 0, 3), BAD);
    due("20 BAD ahead of NONE: what below", x.duty(0, 0, 5, -1), BAD);
    due("20 NONE", x.duty(0, 0, 0, 2), NONE);
    due("22 BAD ahead of NONE", x.first(0, 5), BAD);
    due("22 BAD ahead of NONE: p", x.first(1, 0), BAD);
    due("22 NONE", x.first(0, 4), NONE);
    due("25 BAD ahead of SIZE: k", x.sheet(4, 0, -1), BAD);
    due("25 BAD ahead of SIZE: lane", x.sheet(0, 3, -1), BAD);
    due("25 SIZE", x.sheet(0, 0, -1), -14);
    due("26 BAD ahead of NULL", x.lay(4, 0, 0), BAD);
    due("26 NULL", x.lay(0, 0, 0), -11);
  }

  /** All that can be asked of a small object, at last also by calls that change it. */
  private static List<Integer> allOf(PromiseTries x) {
    List<Integer> all = new ArrayList<>();
    all.add(x.fault());
    all.add(x.torn());
    for (int w = 0; w < 8; w++) all.add(x.rule(w));
    for (int w = 0; w < 3; w++) all.add(x.count(w));
    int promises = x.rule(0), ticks = x.rule(1);
    for (int t = 0; t < ticks; t++) all.add(x.bits(t));
    for (int p = 0; p < promises; p++) {
      for (int w = 0; w < 10; w++) all.add(x.promise(p, w));
      for (int side = 0; side < 3; side++) all.add(x.fulfilled(p, side, 0));
      for (int t = 0; t < ticks; t += 1 + ticks / 8) {
        all.add(x.verdict(p, t));
        all.add(x.decided(p, t));
        all.add(x.duties(p, t));
        all.add(x.duty(p, t, 0, 2));
      }
    }
    all.add(x.text());
    all.add(x.fault());
    for (int k = 0; k < 4; k++)
      for (int lane = 0; lane < 3; lane++) {
        x.keeps(0);
        all.add(x.run(k, lane, 0, 20));
        all.add(x.torn());
        for (int t = 0; t < 3; t++) all.add(x.bits(t));
      }
    return all;
  }

  private static PromiseTries ordinary() {
    PromiseTries x = told("a,b*1 2=c~h;a>b;", 1, 6, 0, 1, 129);
    x.keep(0);
    x.sheet(0, 0, 3);
    x.sheet(1, 1, 2);
    x.lay(0, 1, 77);
    x.lay(1, 0, 88);
    x.run(0, 1, 0, 1);
    feedAll(x, "a=b;c");
    return x;
  }

  private static PromiseTries full() {
    PromiseTries x = told("a=b;a>b;b=c~d;c>{d/a}*1 2;", all(45, 3));
    tell(x, "i");
    x.sheet(0, 2, 40);
    x.lay(0, 0, 9);
    x.run(0, 2, 0, 3);
    feedAll(x, times(" ", 195) + "a=b;c");
    return x;
  }

  private static void refused(String name, int want, Call call) {
    for (int kind = 0; kind < 3; kind++) {
      PromiseTries x = kind == 0 ? ordinary() : kind == 1 ? full() : new PromiseTries();
      PromiseTries y = kind == 0 ? ordinary() : kind == 1 ? full() : new PromiseTries();
      int got = call.on(x);
      if (want == FULL && kind != 1) continue;
      if (want == STATE && kind == 0) continue;
      if ((want == -13 || want == NONE) && kind == 2) continue;
      due("refused " + name + ", object " + kind, got, want);
      imagesAsThey(name, kind, x, y);
      List<Integer> one = allOf(x), other = allOf(y);
      due("refused " + name + " changes nothing, object " + kind, one.equals(other) ? 1 : 0, 1);
    }
  }

  private static void imagesAsThey(String name, int kind, PromiseTries x, PromiseTries y) {
    due("refused " + name + ": images, object " + kind, x.count(0), y.count(0));
    due("refused " + name + ": image 1, object " + kind, x.back(1), y.back(1));
    if (kind != 0) return;
    // Behind the try the trace is the image's: it is asked for here, ahead of going back to it.
    for (int t = 0; t <= 6; t++) due("refused " + name + ": tick " + t, x.bits(t), y.bits(t));
    x.tick(4);
    y.tick(4);
    due("refused " + name + ": image 0", x.back(0), y.back(0));
  }

  // "what is refused changes nothing (but THE TAPE, as told)"
  private static void whatIsRefusedChangesNothing() {
    for (int c : new int[] {-1, 128, LOW, HIGH}) refused("feed(" + c + ")", BAD, x -> x.feed(c));
    refused("feed", FULL, x -> x.feed('a'));
    for (int n : new int[] {-1, 201, LOW, HIGH}) refused("end(" + n + ")", BAD, x -> x.end(n));
    for (int w : new int[] {-1, 8, LOW, HIGH}) refused("rule(" + w + ")", BAD, x -> x.rule(w));
    for (int w : new int[] {-1, 10, LOW, HIGH}) refused("promise(0, " + w + ")", BAD, x -> x.promise(0, w));
    for (int p : new int[] {-1, 4, LOW, HIGH}) {
      refused("promise(" + p + ")", BAD, x -> x.promise(p, 0));
      refused("fulfils(" + p + ")", BAD, x -> x.fulfils(p, 0, 0, 0));
      refused("fulfilled(" + p + ")", BAD, x -> x.fulfilled(p, 0, 0));
      refused("matches(" + p + ")", BAD, x -> x.matches(p, 0, 0, -1));
      refused("might(" + p + ")", BAD, x -> x.might(p, 0, 0));
      refused("verdict(" + p + ")", BAD, x -> x.verdict(p, 0));
      refused("decided(" + p + ")", BAD, x -> x.decided(p, 0));
      refused("duties(" + p + ")", BAD, x -> x.duties(p, 0));
      refused("duty(" + p + ")", BAD, x -> x.duty(p, 0, 0, 0));
      refused("tries(" + p + ")", BAD, x -> x.tries(p, 0));
      refused("first(" + p + ")", BAD, x -> x.first(p, 0));
    }
    for (int t : new int[] {-1, 48, LOW, HIGH}) {
      refused("bits(" + t + ")", BAD, x -> x.bits(t));
      refused("put(" + t + ")", BAD, x -> x.put(t, 1));
      refused("verdict(0, " + t + ")", BAD, x -> x.verdict(0, t));
      refused("duty(0, " + t + ")", BAD, x -> x.duty(0, t, 0, 0));
    }
    for (int b : new int[] {-1, 256, LOW, HIGH}) {
      refused("tick(" + b + ")", BAD, x -> x.tick(b));
      refused("put(0, " + b + ")", BAD, x -> x.put(0, b));
    }
    refused("tick", FULL, x -> x.tick(1));
    for (int n : new int[] {-1, 49, LOW, HIGH}) refused("keeps(" + n + ")", BAD, x -> x.keeps(n));
    for (int n : new int[] {-1, 0, 21, LOW, HIGH}) refused("draw(7, " + n + ")", BAD, x -> x.draw(7, n));
    for (int n : new int[] {1, 20}) refused("draw(7, " + n + ")", FULL, x -> x.draw(7, n));
    for (int k : new int[] {-1, 2, LOW, HIGH}) {
      refused("keep(" + k + ")", BAD, x -> x.keep(k));
      refused("back(" + k + ")", BAD, x -> x.back(k));
    }
    refused("back(0)", STATE, x -> x.back(0));
    for (int k : new int[] {-1, 4, LOW, HIGH}) {
      refused("sheet(" + k + ")", BAD, x -> x.sheet(k, 0, 1));
      refused("lay(" + k + ")", BAD, x -> x.lay(k, 0, 1));
      refused("run(" + k + ")", BAD, x -> x.run(k, 0, 0, 1));
    }
    for (int lane : new int[] {-1, 3, LOW, HIGH}) {
      refused("sheet(0, " + lane + ")", BAD, x -> x.sheet(0, lane, 1));
      refused("run(0, " + lane + ")", BAD, x -> x.run(0, lane, 0, 1));
    }
    for (int n : new int[] {41, HIGH}) refused("sheet(0, 1, " + n + ")", BAD, x -> x.sheet(0, 1, n));
    for (int n : new int[] {-1, LOW}) refused("sheet(0, 1, " + n + ")", -14, x -> x.sheet(0, 1, n));
    for (int i : new int[] {-1, 0, 40, LOW, HIGH}) refused("lay(3, " + i + ")", -11, x -> x.lay(3, i, 1));
    for (int i : new int[] {-1, 40, LOW, HIGH}) refused("lay(0, " + i + ")", -13, x -> x.lay(0, i, 1));
    for (int side : new int[] {-1, 3, LOW, HIGH}) {
      refused("fulfils(0, " + side + ")", BAD, x -> x.fulfils(0, side, 0, 0));
      refused("fulfilled(0, " + side + ")", BAD, x -> x.fulfilled(0, side, 0));
      refused("matches(0, " + side + ")", BAD, x -> x.matches(0, side, 0, -1));
      refused("might(0, " + side + ")", BAD, x -> x.might(0, side, 0));
    }
    refused("fulfils without OFF", BAD, x -> x.fulfils(1, 2, 0, 0));
    refused("fulfilled without OFF", BAD, x -> x.fulfilled(1, 2, 0));
    for (int v : new int[] {-1, 5, LOW, HIGH}) {
      refused("tries(0, " + v + ")", BAD, x -> x.tries(0, v));
      refused("first(0, " + v + ")", BAD, x -> x.first(0, v));
    }
    refused("duty(0, 0, 40, 0)", NONE, x -> x.duty(0, 0, 40, 0));
    refused("first(1, 4)", NONE, x -> x.first(1, 4));
    for (int n : new int[] {-1, 21, LOW, HIGH}) refused("run(0, 0, 0, " + n + ")", BAD, x -> x.run(0, 0, 0, n));
    for (int w : new int[] {-1, 3, LOW, HIGH}) refused("count(" + w + ")", BAD, x -> x.count(w));
  }

  // ================================================================ Terms, 1

  // "WIRES are a to h .. WIRE a is the lowest bit, h the highest"
  private static void wires() {
    for (int w = 0; w < 8; w++) {
      char c = (char) ('a' + w);
      PromiseTries x = told(c + "=!" + c + "~" + c + ";");
      for (int bits = 0; bits < 256; bits++) {
        int has = bits >> w & 1;
        if (bits % 5 == 0 || Integer.bitCount(bits) < 2) {
          due("8 WIRE " + c + " of " + bits, x.fulfils(0, 0, 0, bits), has);
          due("8 NOT " + c + " of " + bits, x.fulfils(0, 1, 0, bits), 1 - has);
          due("8 OFF " + c + " of " + bits, x.fulfils(0, 2, 0, bits), has);
        }
      }
      dueAll("9 half of all: " + c, 128, x.fulfilled(0, 0, 0), x.fulfilled(0, 1, 0), x.fulfilled(0, 2, 0));
      due("10 a TICK with " + c, told(c + "=a;", 1 << w).matches(0, 0, 0, 0), 1);
      due("10 a TICK without " + c, told(c + "=a;", 255 - (1 << w)).matches(0, 0, 0, 0), 0);
    }
    faulty("`=a;", 0, 1);
    faulty("i=a;", 0, 1);
    faulty("A=a;", 0, 1);
    faulty("a=H;", 2, 1);
  }

  // "THE TRACE has TICKS 0 on (48 at most; none at first), each BITS 0 to 255"
  private static void ticks() {
    PromiseTries x = new PromiseTries();
    due("1 none at first", x.rule(1), 0);
    due("13 no TICK 0", x.bits(0), BAD);
    for (int t = 0; t < 48; t++) {
      due("13 no TICK " + t + " yet", x.bits(t), BAD);
      due("12 TICK " + t, x.tick(255 - 5 * t), 0);
    }
    for (int t = 0; t < 48; t++) due("13 TICK " + t, x.bits(t), 255 - 5 * t);
    due("12 the 49th", x.tick(0), FULL);
    due("13 no TICK 48", x.bits(48), BAD);
    due("6 48 TICKS", x.rule(1), 48);
    due("14 the last has others", x.put(47, 255), 20);
    due("14 the last has the most", x.put(47, 0), 255);
    due("14 the last has the least", x.bits(47), 0);
    due("15 one less", x.keeps(47), 48);
    due("12 the 48th again", x.tick(1), 0);
    due("12 and no more", x.tick(1), FULL);
    PromiseTries y = told("a=b;a>b;b=c;c>d;", all(47, 0));
    for (int p = 0; p < 4; p++) dueAll("17 no TRY 47 of " + p, BAD, y.verdict(p, 47), y.decided(p, 47), y.duties(p, 47));
    due("12 the last TICK, a and c", y.tick(5), 1);
    int[] verdicts = {2, 0, 3, 0}, decided = {47, NONE, 47, NONE}, duties = {1, 1, 0, 1};
    for (int p = 0; p < 4; p++) {
      due("17 TRY 47 of " + p, y.verdict(p, 47), verdicts[p]);
      due("18 TRY 47 of " + p, y.decided(p, 47), decided[p]);
      due("19 TRY 47 of " + p, y.duties(p, 47), duties[p]);
      due("20 TRY 47 of " + p, y.duty(p, 47, 0, 0), duties[p] == 0 ? NONE : 47);
      due("17 no TRY 48 of " + p, y.verdict(p, 48), BAD);
    }
    due("22 the last TRY", y.first(0, 2), 47);
    due("21 all but the last", y.tries(0, 3), 47);
  }

  // "PROMISES 0 on (4 at most; none at first)"; "4 the fifth PROMISE (its first TOKEN)"
  private static void promises() {
    PromiseTries x = new PromiseTries();
    due("1 none at first", x.rule(0), 0);
    due("7 no PROMISE 0", x.promise(0, 0), BAD);
    for (int n = 0; n <= 4; n++) {
      PromiseTries y = new PromiseTries();
      due("4 " + n + " PROMISES", tell(y, times("a>b;", n)), n);
      due("6 " + n + " PROMISES", y.rule(0), n);
      for (int p = 0; p < n; p++) due("7 PROMISE " + p + " of " + n, y.promise(p, 0), 1);
      due("7 no PROMISE " + n, y.promise(n, 0), BAD);
    }
    taken(times("a=b; ", 4), 4);
    String four = times("a=b;", 4);
    for (String first : new String[] {"a", "h", "!", "(", "{", "a=b;", "{{{{{{{{{", "a*10 1", "ab", "a*0 1=b;"}) {
      faulty(four + first, 16, 4);
      faulty(four + "   " + first, 19, 4);
    }
    for (String first : new String[] {"i", "100", "#", "\t"}) faulty(four + first, 16, 1);
    for (String first : new String[] {"1", "10", ";", "=", "}", ")", "*", ",", "~", "&", "|", "/", ">"})
      faulty(four + first, 16, 2);
    faulty("a=b;a=b;a=b;a*0 1=b;a=b;", 19, 5);
    faulty("a=b;a=b;a=b;a=b", 15, 2);
  }

  // "a CONDITION matches one TICK"; "A then B those of which some first ones A matches, the rest B"; "A or B .. either";
  // "A by m to n .. some TIMES, m to n, .. (0 times: none)"
  private static void matching() {
    for (int m = 0; m <= 9; m++) {
      for (int n = Math.max(1, m); n <= 9; n++) {
        PromiseTries x = told("a*" + m + " " + n + ",b={a/b}*" + m + " " + n + ",b;", 1, 1, 1, 1, 1, 1, 1, 1, 1, 1, 2);
        for (int k = 0; k <= 10; k++) {
          due("10 " + k + " by " + m + " to " + n, x.matches(0, 0, 10 - k, 10), k >= m && k <= n ? 1 : 0);
          due("10 " + k + " of either by " + m + " to " + n, x.matches(0, 1, 10 - k, 10), k >= m && k <= n ? 1 : 0);
        }
        due("10 b is missing", x.matches(0, 0, 0, 9), 0);
        due("7 fewest by " + m + " to " + n, x.promise(0, 6), m + 1);
        due("7 most by " + m + " to " + n, x.promise(0, 8), n + 1);
        due("7 LONG by " + m + " to " + n, x.promise(0, 4), n + 1);
        due("7 LONG of either by " + m + " to " + n, x.promise(0, 5), 2 * n + 1);
      }
    }
    PromiseTries x = told("a*0 1,b*0 1,c=a/b*0 2,c;a,{b*0 1,c*0 1}*2 2={a*0 1/b}*3 3,c;", 1, 2, 4, 4);
    due("10 a, b, c", x.matches(0, 0, 0, 2), 1);
    due("10 b, c", x.matches(0, 0, 1, 2), 1);
    due("10 c", x.matches(0, 0, 2, 2), 1);
    due("10 c, c", x.matches(0, 0, 2, 3), 0);
    due("10 a, b", x.matches(0, 0, 0, 1), 0);
    due("10 or: a alone", x.matches(0, 1, 0, 0), 1);
    due("10 or: a, b, c is neither", x.matches(0, 1, 0, 2), 0);
    due("10 or: b, c", x.matches(0, 1, 1, 2), 1);
    due("10 or: c", x.matches(0, 1, 3, 3), 1);
    due("10 twice what may be none: none", x.matches(1, 0, 0, 0), 1);
    due("10 twice what may be none: b", x.matches(1, 0, 0, 1), 1);
    due("10 twice what may be none: b, c", x.matches(1, 0, 0, 2), 1);
    due("10 twice what may be none: b, c and c", x.matches(1, 0, 0, 3), 1);
    due("10 three times, one a TICK of b: a, b", x.matches(1, 1, 0, 2), 1);
    due("10 three times none", x.matches(1, 1, 2, 2), 1);
    due("10 three times none, c twice", x.matches(1, 1, 2, 3), 0);
    // By 1 to 1 is what it is, however wide.
    for (int wide = 2; wide <= 40; wide++) {
      String part = "a/" + times("b,", wide - 2) + "b";
      PromiseTries w = told("{" + part + "}*1 1=" + part + ";", all(48, 2));
      for (int t = 0; t < 48; t++) {
        w.put(t, 1);
        for (int side = 0; side < 2; side++) {
          due("10 wide, a behind b, " + t, w.matches(0, side, 0, t), t == 0 ? 1 : 0);
          due("10 wide, b alone, " + t, w.matches(0, side, 0, t - 1), t == wide - 1 ? 1 : 0);
        }
        w.put(t, 2);
      }
    }
    // A repeat of at least m must not end with fewer, though its last part may be none.
    PromiseTries y = told("{a,b*0 1}*2 2=c;", 1, 2, 1, 2, 1);
    int[][] yes = {{0, 2}, {0, 3}, {2, 4}};
    for (int i = 0; i < 5; i++)
      for (int j = i; j < 5; j++) {
        int want = 0;
        for (int[] q : yes) if (q[0] == i && q[1] == j) want = 1;
        due("10 twice a and perhaps b, " + i + " to " + j, y.matches(0, 0, i, j), want);
      }
  }

  // "THE TAPE has 200 bytes, places from 0"; "the end: the length"
  private static void tape() {
    taken(times(" ", 196) + "a=b;", 1);
    taken("a=b;" + times(" ", 196), 1);
    taken(times("a=b;", 3) + times("!", 184) + "a=b;", 4);
    faulty(times(" ", 199) + "i", 199, 1);
    faulty(times(" ", 199) + ";", 199, 2);
    faulty(times(" ", 197) + "a=b", 200, 2);
    faulty("a" + times(" ", 199), 200, 2);
    faulty(times("!", 200), 200, 2);
    faulty(times(" ", 194) + "a*1 20", 198, 3);
    faulty(times(" ", 197) + "a*9", 200, 2);
    faulty(times(" ", 197) + "a99", 198, 2);
    faulty(times(" ", 196) + "a*99", 198, 3);
    faulty(times(" ", 195) + "a*999", 197, 1);
    PromiseTries x = new PromiseTries();
    feedAll(x, times(" ", 196) + "a=b;");
    due("2 the 201st", x.feed(';'), FULL);
    due("4 200 bytes", x.text(), 1);
    due("29 THE TAPE is empty then", x.count(1), 0);
    due("2 the first again", x.feed('a'), 1);
    feedAll(x, "=b;i");
    due("3 without its last", x.end(4), 5);
    due("4 what it keeps", x.text(), 1);
    feedAll(x, "i=b;");
    due("3 none of them", x.end(0), 4);
    feedAll(x, "a>b");
    due("3 all of them", x.end(3), 3);
    due("2 behind what it keeps", x.feed(';'), 4);
    due("4 as it was fed", x.text(), 1);
    due("7 NEXT", x.promise(0, 0), 1);
  }

  // "TOKENS, each as long as may be, blanks (32) ahead, between, behind, as many as wanted (at least one between two
  // NUMBERS; else none is needed)"
  private static void tokens() {
    String plain = "{a/b}*1 2,!(c&d|e)>f*0 9,g~h&!a;";
    taken(plain, 1);
    StringBuilder wide = new StringBuilder("  ");
    for (int i = 0; i < plain.length(); i++) wide.append(plain.charAt(i)).append("   ");
    taken(wide.toString(), 1);
    due("7 the same", told(wide.toString()).promise(0, 4), told(plain).promise(0, 4));
    faulty("a*12=b;", 2, 3);
    faulty("a*1=b;", 3, 2);
    faulty("a*0 12=b;", 4, 3);
    faulty("a*0 1 2=b;", 6, 2);
    taken("a*1 2=b;", 1);
    taken("a*1          2=b;", 1);
    faulty("a*1\t2=b;", 3, 1);
    taken("a*01 01=b,a;", 1);
    faulty("a*00 00=b;", 5, 3);
    taken("c,a*00 01=b;", 1);
    faulty("a*001 1=b;", 2, 1);
    faulty("b,a*001 1=b;", 4, 1);
    faulty("b,a*0 001=b;", 6, 1);
    faulty("a*1 001=b;", 4, 1);
    faulty("a*000000 1=b;", 2, 1);
    faulty("001", 0, 1);
    faulty("01", 0, 2);
  }

  // "1 no TOKEN"; "2 a TOKEN that can not stand there": every byte at every kind of place
  private static void everyByte() {
    String part = "abcdefgh!({", single = "abcdefgh!(", none = "";
    String[][] places = {
      {"", part}, {"a", ",/*=>"}, {"!", single}, {"!!", single}, {"(", single}, {"(a", "&|)"}, {"(a|", single},
      {"(a&", single}, {"(a&b", "&|)"}, {"(!", single}, {"(a)", ",/*=>"}, {"((a)", "&|)"}, {"!a", ",/*=>"},
      {"{", part}, {"{a", ",/*}"}, {"{(a)", ",/*}"}, {"{a}", ",/*=>"}, {"{a,", part}, {"{a/", part}, {"{{a}", ",/*}"},
      {"a,", part}, {"a/", part}, {"a,b", ",/*=>"}, {"a*", "0123456789"}, {"a*1 ", "123456789"}, {"a*1 2 ", ",/=>"},
      {"{a*1 2 ", ",/}"}, {"{a}*1 2 ", ",/=>"}, {"a=", part}, {"a>", part}, {"a=b", ",/*~;"}, {"a=!b", ",/*~;"},
      {"a={b", ",/*}"}, {"a={b}", ",/*~;"}, {"a=(b)", ",/*~;"}, {"a=b*1 2 ", ",/~;"}, {"a=b,", part}, {"a=b/", part},
      {"a=b~", single}, {"a=b~!", single}, {"a=b~a", "&|;"}, {"a=b~a|", single}, {"a=b~a&", single}, {"a=b~(", single},
      {"a=b~(a", "&|)"}, {"a=b~(a)", "&|;"}, {"a=b;", part}, {"a=b~a;", part}, {"a=b;a", ",/*=>"},
      {times("a=b;", 4), none}, {times("{", 8), "abcdefgh!"}, {times("(", 8), "abcdefgh!"}, {"{{{{((((", "abcdefgh!"}
    };
    String signs = "abcdefgh0123456789!&|(){},/*=>~;";
    for (String[] place : places) {
      int at = place[0].length();
      boolean mayEnd = at == 0 || place[0].charAt(at - 1) == ';';
      for (int c = 0; c < 128; c++) {
        PromiseTries x = new PromiseTries();
        feedAll(x, place[0]);
        x.feed(c);
        int answer = x.text(), fault = x.fault();
        String name = "5 byte " + c + " behind [" + place[0] + "]";
        if (c == ' ') {
          due(name, fault, mayEnd ? 0 : 2);
          due(name + ", its place", answer, mayEnd ? howMany(place[0], ';') : -10 - at - 1);
        } else if (signs.indexOf(c) < 0) {
          due(name, fault, 1);
          due(name + ", its place", answer, -10 - at);
        } else if (place[1].indexOf(c) >= 0) {
          due(name + " can stand", answer >= 0 || answer < -10 - at ? 1 : 0, 1);
        } else {
          boolean deep = at >= 8 && (at == 8 ? standsIn(place[0], c) : part.indexOf(c) >= 0 && at == 16);
          int want = deep ? 4 : place[0].equals("a*1 ") && c == '0' ? 3 : 2;
          due(name, fault, want);
          due(name + ", its place", answer, -10 - at);
        }
      }
    }
  }

  private static int howMany(String s, char c) {
    int sum = 0;
    for (int i = 0; i < s.length(); i++) if (s.charAt(i) == c) sum++;
    return sum;
  }

  // Behind eight signs that are not ended, ( and, within { alone, { are the ones that could stand.
  private static boolean standsIn(String open, int c) {
    return open.equals("{{{{{{{{") && (c == '(' || c == '{') || (open.equals("((((((((") || open.equals("{{{{((((")) && c == '(';
  }

  // "CONDITIONS of a SEQUENCE are numbered 0 on as their T are read (all of an E is one)"
  private static void numbering() {
    PromiseTries x = told("a,{(b|c)/!d}*2 3,!(e&(f|g))={h}/{a,{b}}*1 2~a|b;");
    int[] ifs = {128, 192, 128, 256 - 96}, thens = {128, 128, 128};
    for (int e = 0; e < 4; e++) due("9 CONDITION " + e + " of IF", x.fulfilled(0, 0, e), ifs[e]);
    for (int e = 0; e < 3; e++) due("9 CONDITION " + e + " of THEN", x.fulfilled(0, 1, e), thens[e]);
    dueAll("8 which of IF", 1, x.fulfils(0, 0, 0, 1), x.fulfils(0, 0, 1, 2), x.fulfils(0, 0, 1, 4), x.fulfils(0, 0, 2, 0),
        x.fulfils(0, 0, 3, 16), x.fulfils(0, 0, 3, 96));
    dueAll("8 which of IF not", 0, x.fulfils(0, 0, 0, 254), x.fulfils(0, 0, 1, 249), x.fulfils(0, 0, 2, 8), x.fulfils(0, 0, 3, 48));
    dueAll("8 which of THEN", 1, x.fulfils(0, 1, 0, 128), x.fulfils(0, 1, 1, 1), x.fulfils(0, 1, 2, 2));
    due("7 CONDITIONS of IF", x.promise(0, 2), 4);
    due("7 CONDITIONS of THEN", x.promise(0, 3), 3);
    dueAll("9 no such CONDITION", BAD, x.fulfilled(0, 0, 4), x.fulfilled(0, 0, -1), x.fulfilled(0, 1, 3), x.fulfilled(0, 1, LOW));
    dueAll("8 no such CONDITION", BAD, x.fulfils(0, 0, 4, 0), x.fulfils(0, 0, -1, 0), x.fulfils(0, 1, 3, 0), x.fulfils(0, 1, HIGH, 0));
    PromiseTries y = told(times("a,", 39) + "b=" + times("b/", 39) + "c;");
    due("9 CONDITION 38", y.fulfils(0, 0, 38, 1), 1);
    due("9 CONDITION 39", y.fulfils(0, 0, 39, 2), 1);
    due("9 no CONDITION 40", y.fulfils(0, 0, 40, 2), BAD);
    due("9 CONDITION 39 of THEN", y.fulfils(0, 1, 39, 4), 1);
    due("9 no CONDITION 40 of THEN", y.fulfilled(0, 1, 40), BAD);
  }

  // "N N: m (0 to 9), n (1 to 9, m at least)"; "3 a NUMBER out of its bounds"
  private static void bounds() {
    for (int m = 0; m < 100; m++) {
      for (int n = 0; n < 100; n += n < 12 ? 1 : 29) {
        String text = "b,a*" + m + " " + n + "=b;";
        int second = 5 + (m < 10 ? 1 : 2);
        if (m > 9) faulty(text, 4, 3);
        else if (n < 1 || n > 9 || n < m) faulty(text, second, 3);
        else taken(text, 1);
        if (m > 9 && n > 0) break;
      }
    }
    faulty("b=a*10 1;", 4, 3);
    faulty("b=a*1 10;", 6, 3);
    faulty("b={a}*3 2;", 8, 3);
  }

  // "the first met as it is read (a TOKEN is read when the one before has been taken; of two at one TOKEN the first here)"
  private static void theFirstFault() {
    faulty("a*10#", 2, 3);
    faulty("a*10 123", 2, 3);
    faulty("a*2 1#", 4, 3);
    faulty("ab#", 1, 2);
    faulty("a#b", 1, 1);
    faulty("a*0 1=b;#", 7, 5);
    faulty("a*0 1=b;;", 7, 5);
    faulty("a*0 1=b#;", 7, 1);
    faulty("a*0 1=b b;", 8, 2);
    faulty("a*0 1=b*5 4;", 10, 3);
    faulty(times("a,", 40) + "a=b;#", 83, 6);
    faulty(times("a,", 40) + "a=b*0 0;", 86, 3);
    faulty(times("a,", 40) + "a=b", 83, 2);
    faulty(times("{", 9) + "#", 8, 4);
    faulty(times("(", 8) + "{", 8, 2);
    faulty(times("(", 8) + "!{", 9, 2);
    faulty(times("{", 8) + "100", 8, 1);
    // What stands behind the first fault would read well, but is not read.
    faulty(times("{", 9) + "a}=b;", 8, 4);
    faulty("a=" + times("(", 9) + "a)=b;", 10, 4);
    faulty("a=" + times("{", 9) + "a}=b;", 10, 4);
    faulty("a=b~" + times("(", 9) + "a)=b;", 12, 4);
    faulty("!" + times("(", 9) + "a)=b;", 9, 4);
    faulty("a,b" + "a=b;", 3, 2);
    faulty("a/(b" + "a=b;", 4, 2);
    faulty("a/{b" + "a=b;", 4, 2);
    faulty("a=b~(c" + "a=b;", 6, 2);
    faulty("a=b~c" + "a=b;", 5, 2);
    faulty("a=b~{c}=d;", 4, 2);
    faulty("a*{c}=d;", 2, 2);
    faulty("a*1{c}=d;", 3, 2);
    faulty("!{c}=d;", 1, 2);
    faulty("(a|{c}=d;", 3, 2);
    faulty("(a&{c}=d;", 3, 2);
    faulty("(a|b&!{c}=d;", 6, 2);
    for (String rest : new String[] {"*1 2=b;", ",a=b;", "/a=b;", "=b;", ">b;"}) {
      for (String open : new String[] {"{", "(", "!", "{a,", "{a/", "(a|", "(a&", "{(", "{!", "a,", "a/"})
        faulty(open + rest, open.length(), 2);
    }
    for (String rest : new String[] {"*1 2;", ",a;", "/a;", "~a;", ";"})
      for (String open : new String[] {"{", "(", "!", "{a,", "{a/", "(a|", "(a&", "{(", "{!", "a,", "a/", ""})
        faulty("b=" + open + rest, 2 + open.length(), 2);
    faulty("a=b*0 1;a=b;", 7, 5);
    faulty("{a,b,c,d,e}*9 9=b;a=b;", 17, 6);
  }

  // "a sign ( or { that would be in eight others that are not ended"
  private static void nesting() {
    for (int open = 0; open <= 8; open++) {
      String round = times("(", 8 - open), curly = times("{", open);
      taken(curly + round + "a" + times(")", 8 - open) + times("}", open) + "=b;", 1);
      taken("b=" + curly + round + "a" + times(")", 8 - open) + times("}", open) + ";", 1);
      faulty(curly + round + "(a", 8, 4);
      faulty("b=" + curly + round + "(a", 10, 4);
      faulty("a,b/" + curly + round + "!(a", 13, 4);
      if (open == 8) faulty(curly + "{a", 8, 4);
    }
    taken("a=b~" + times("(", 8) + "a" + times(")", 8) + ";", 1);
    faulty("a=b~" + times("(", 9), 12, 4);
    // Those that are ended do not count, be it one or many.
    taken(times("{", 7) + "{a},{b},(c)" + times("}", 7) + "=" + times("(", 7) + "(a)&(b)|(c)" + times(")", 7) + ";", 1);
    faulty(times("{", 7) + "{a},{b},((c))", 7 + 8 + 1, 4);
    taken(times("{", 8) + "a" + times("}", 8) + "," + times("{", 8) + "a" + times("}", 8) + "=b~" + times("(", 8) + "a"
        + times(")", 8) + ";", 1);
  }

  /** As much as can stand open at once, in each of the nine levels: a choice, a chain, and what is read. */
  private static void theDeepest() {
    String open = times("a/b,{", 8), close = times("}", 8);
    PromiseTries x = told(open + "c/d,e" + close + "=" + open + "c/d,e" + close + ";", 2, 2, 2, 2, 2, 2, 2, 2, 8, 16, 1, 2, 4);
    for (int side = 0; side < 2; side++) {
      due("7 CONDITIONS of the deepest", x.promise(0, 2 + side), 19);
      due("7 LONG of the deepest", x.promise(0, 4 + side), 19);
      due("7 fewest of the deepest", x.promise(0, 6 + side), 1);
      due("7 most of the deepest", x.promise(0, 8 + side), 10);
      due("10 all eight, and the last two", x.matches(0, side, 0, 9), 1);
      due("10 one less", x.matches(0, side, 1, 9), 0);
      due("10 not the last", x.matches(0, side, 0, 8), 0);
      due("10 a alone", x.matches(0, side, 10, 10), 1);
      due("10 c ahead of its time", x.matches(0, side, 11, 12), 0);
      due("9 the last CONDITION", x.fulfils(0, side, 18, 16), 1);
      due("9 the last but one", x.fulfils(0, side, 17, 8), 1);
    }
    String round = times("a|b&(", 8) + "c|d&e" + times(")", 8);
    PromiseTries y = told("a=b~" + round + ";");
    due("8 a", y.fulfils(0, 2, 0, 1), 1);
    due("8 b and c", y.fulfils(0, 2, 0, 6), 1);
    due("8 b, d, e", y.fulfils(0, 2, 0, 2 + 8 + 16), 1);
    due("8 b, d", y.fulfils(0, 2, 0, 2 + 8), 0);
    due("8 d, e", y.fulfils(0, 2, 0, 8 + 16), 0);
    due("9 of all", y.fulfilled(0, 2, 0), 168);
    PromiseTries not = told("a=b~" + times("!a|b&!(", 8) + "!c|!d&!e" + times(")", 8) + ";");
    due("8 NOT in the deepest, a is not there", not.fulfils(0, 2, 0, 0), 1);
    due("8 NOT in the deepest, a alone", not.fulfils(0, 2, 0, 1), 0);
    // With a and b each level is NOT the next one: by eight of them it is as the innermost.
    due("8 NOT in the deepest, a and b", not.fulfils(0, 2, 0, 3), 1);
    due("8 NOT in the deepest, a, b, c", not.fulfils(0, 2, 0, 7), 1);
    due("8 NOT in the deepest, a, b, c, d", not.fulfils(0, 2, 0, 15), 0);
    due("9 NOT in the deepest, of all", not.fulfilled(0, 2, 0), 128 + 40);
    PromiseTries z = told("a/b,(" + times("a|b&(", 7) + "c|d&e" + times(")", 8) + "=a;");
    due("9 in a CONDITION", z.fulfilled(0, 0, 2), 168);
    // Deep texts that were refused leave nothing behind that takes the room of the next one.
    PromiseTries v = new PromiseTries();
    for (int i = 0; i < 5; i++) due("4 refused", tell(v, "a=b~" + times("a|b&(", 4) + "c|d&"), -38);
    due("4 taken then", tell(v, "a=b~" + round + ";"), 1);
    due("9 of all then", v.fulfilled(0, 2, 0), 168);
    PromiseTries w = told("a=" + times("{", 8) + "a*1 1" + times("}*1 1", 8) + ";");
    due("7 by 1 to 1 nine times", w.promise(0, 5), 1);
  }

  // "5 IF or THEN matches none, too (each CONDITION taken as one TICK)"
  private static void matchesNoneToo() {
    String[] none = {"a*0 1", "a*0 9", "a*0 1,b*0 1", "a/b*0 1", "b*0 1/a", "{a*0 1}", "{a*0 1}*1 1", "{a*0 1}*9 9",
        "{a,b}*0 1", "{a*0 1,b*0 1}*2 3,c*0 2", "(a&!a)*0 1", "a,b/{c*0 1/d}"};
    String[] some = {"a*1 1", "a*0 9,b", "b,a*0 9", "a*0 1,b,c*0 1", "{a*0 1/b},c", "{a*0 1,b}*1 3", "(a&!a)", "(a&!a)*1 2"};
    for (String s : none) {
      faulty(s + "=b;", s.length() + 2, 5);
      faulty("b=" + s + ";", s.length() + 2, 5);
      faulty(s + "=" + s + " ~ a ;", 2 * s.length() + 6, 5);
      faulty("a=b;b>" + s + ";a=b;", s.length() + 6, 5);
    }
    for (String s : some) taken(s + "=" + s + ";" + s + ">" + s + "~a;", 2);
    faulty(times("{", 3) + "a*9 9" + times("}*9 9", 3) + "=b*0 1;", 3 + 5 + 15 + 6, 5);
    faulty("b*0 1={a*9 9}*9 9;", 17, 5);
    faulty("{a*9 9}*0 9=b;", 13, 5);
  }

  // "6 IF or THEN is more than 40 CONDITIONS LONG: a CONDITION 1, by m to n n times that, others those of both"
  private static void tooLong() {
    String[] forty = {times("a,", 39) + "a", times("a/", 39) + "a", "{a*1 5}*1 8", "{a,b,c,d,e}*2 8", "{a/b,c/d,e}*8 8",
        "a*9 9,a*1 9,a*0 9,a*9 9,a*4 4", "{a*4 4,b}*1 8", "{{a,b}*1 2/c}*1 8", "a*9 9/a*9 9/a*9 9/a*9 9/a*4 4"};
    for (String s : forty) {
      taken(s + "=b;", 1);
      taken("b>" + s + ";", 1);
      taken(s + ">" + s + ";", 1);
      due("7 40 LONG", told(s + "=b;").promise(0, 4), 40);
      due("7 40 LONG, THEN", told("b=" + s + ";").promise(0, 5), 40);
      faulty(s + ",a=b;", s.length() + 4, 6);
      faulty(s + "/a=b;", s.length() + 4, 6);
      faulty("a," + s + "=b;", s.length() + 4, 6);
      faulty("b=" + s + "/a;", s.length() + 4, 6);
      faulty("b={" + s + "}*1 2;", s.length() + 8, 6);
      faulty("b={" + s + "}*0 2,a~a;", s.length() + 12, 6);
      taken("{" + s + "}*1 1=b;", 1);
    }
    faulty("{a*1 9}*1 5=b;", 13, 6);
    taken("{a*1 9}*1 4,a*1 4=b;", 1);
    faulty("{a*1 9}*1 4,a*1 5=b;", 19, 6);
    // Each side for itself, and each PROMISE for itself.
    taken("{a,b,c,d,e}*8 8={a,b,c,d,e}*8 8;{a,b,c,d,e}*8 8={a,b,c,d,e}*8 8;", 2);
    faulty(times("{", 8) + "a*9 9" + times("}*9 9", 8) + "=b;", 8 + 5 + 40 + 2, 6);
    faulty(times("a,", 97) + "a=b;", 197, 6);
  }

  // "A text that is taken tells PROMISES, in place of what there was; THE TRACE, SHEETS stay, IMAGES are gone";
  // "(empty then, by a FAULT, too)"; "that which was told stays"
  private static void toldAgain() {
    String[] faults = {"a", "i", "a*10 1=b;", "{{{{{{{{{", "a*0 1=b;", "{a*9 9}*9 9=b;", "c>d;c>d;c>d;c>d;c", "c>d,e;c>d*0 1;"};
    for (String bad : faults) {
      PromiseTries x = told("a,b=c~h;a>b*2 3;", 1, 6, 1, 2, 128, 1);
      x.keep(1);
      x.sheet(0, 1, 4);
      List<Integer> before = someOf(x);
      due("4 a FAULT in [" + bad + "]", tell(x, bad) <= -10 ? 1 : 0, 1);
      due("4 THE TAPE is empty by [" + bad + "]", x.count(1), 0);
      due("4 all stays by [" + bad + "]", someOf(x).equals(before) ? 1 : 0, 1);
      due("4 an IMAGE stays by [" + bad + "]", x.back(1), 6);
      due("4 taken then", tell(x, "b=b;"), 1);
      due("5 no FAULT then", x.fault(), 0);
      due("4 in place of what there was", x.promise(1, 0), BAD);
      dueAll("4 IMAGES are gone", STATE, x.back(0), x.back(1));
      due("4 no IMAGES", x.count(0), 0);
      due("4 THE TRACE stays", x.rule(1), 6);
      due("4 SHEETS stay", x.count(2), 4);
      due("4 TRIES anew", x.rule(3), 2);
      due("4 and EMPTY ones", x.rule(5), 4);
    }
    PromiseTries x = told("a=b;", 1, 3);
    x.keep(0);
    x.sheet(0, 0, 5);
    due("4 an empty text is taken", x.text(), 0);
    due("4 no PROMISES by it", x.rule(0), 0);
    due("4 no IMAGES by it", x.back(0), STATE);
    due("4 no TRIES by it", x.verdict(0, 0), BAD);
    for (int w = 2; w < 8; w++) due("6 nothing of no PROMISES, " + w, x.rule(w), 0);
    due("4 THE TRACE stays by it", x.bits(1), 3);
    due("4 SHEETS stay by it", x.count(2), 5);
    due("12 a TICK without PROMISES", x.tick(1), 0);
    due("4 told behind TICKS", tell(x, "a=b;"), 1);
    due("17 a TRY of each TICK", x.verdict(0, 0) * 100 + x.verdict(0, 1) * 10 + x.verdict(0, 2), 212);
  }

  private static List<Integer> someOf(PromiseTries x) {
    List<Integer> all = new ArrayList<>();
    for (int w = 0; w < 8; w++) all.add(x.rule(w));
    for (int p = 0; p < 3; p++) {
      for (int w = 0; w < 10; w++) all.add(x.promise(p, w));
      for (int t = 0; t < 6; t++) {
        all.add(x.verdict(p, t));
        all.add(x.decided(p, t));
        all.add(x.duties(p, t));
        for (int i = 0; i < 2; i++) for (int w = 0; w < 3; w++) all.add(x.duty(p, t, i, w));
        all.add(x.might(p, 0, t));
        all.add(x.might(p, 1, t));
        all.add(x.matches(p, 0, t, Math.min(t + 1, 5)));
      }
      for (int side = 0; side < 2; side++) {
        for (int i = 0; i < 3; i++) all.add(x.might(p, side, Math.max(0, x.rule(1) - i)));
        for (int e = 0; e < 6; e++) all.add(x.fulfilled(p, side, e));
      }
    }
    all.add(x.count(0));
    all.add(x.count(2));
    return all;
  }

  /** Nothing of a longer, a too long or a refused text is left in the next one, whichever text it was. */
  private static void nothingIsLeft() {
    String[] texts = {"{a,b,c,d,e}*8 8={a/b,c/d,e}*1 8~a;", "a=b;", "a,b/c=d,e;", "{a,b}*1 2,c>a*1 3;", "a/b/c/d=e,f,g,h;",
        "(a&!a),b=(a&!a)/c;", "{a*0 1,b}*2 3=c*2 2,d;",
        "{a,b}*1 2/c>{a/b}*2 2/c,d;", "a,b,(c&!c)>b,(c&!c);", "a,{b/c,d}*1 2/e>a/b,{c,d}*1 2/e;"};
    String[] between = {"", times("a,", 45) + "a=b;", "{a,b}*9 9={c,d}*9 9;", "a,b,c,d*0 1=e/f,g*3 2;", "a*0 1=b;", "{(!(a&"};
    int[] ticks = {1, 2, 1, 2, 4, 8, 16, 1, 2, 8, 3, 4, 8, 1, 2};
    for (String first : texts)
      for (String middle : between)
        for (String last : texts) {
          PromiseTries x = told(first, ticks), y = told(last, ticks);
          x.rule(7);
          tell(x, middle);
          tell(x, last);
          due("4 [" + last + "] behind [" + middle + "] behind [" + first + "]", someOf(x).equals(someOf(y)) ? 1 : 0, 1);
        }
  }

  // ================================================================ Terms, 2

  // "A DUTY of it is each TICK u so that IF matches TICKS t to u; it begins at u (HERE), or u and 1 (NEXT)"
  private static void duties() {
    PromiseTries here = told("a,b*0 2=b,c;", 1, 2, 6, 4), next = told("a,b*0 2>b,c;", 1, 2, 6, 4);
    int[] hereIs = {2, 1, 1}, hereBy = {0, 2, 3}, nextIs = {1, 1, 2}, nextBy = {2, 3, 3};
    for (int i = 0; i < 3; i++) {
      due("20 HERE, u of " + i, here.duty(0, 0, i, 0), i);
      due("20 NEXT, u of " + i, next.duty(0, 0, i, 0), i);
      due("20 HERE, DUTY " + i, here.duty(0, 0, i, 1), hereIs[i]);
      due("20 NEXT, DUTY " + i, next.duty(0, 0, i, 1), nextIs[i]);
      due("20 HERE, by when " + i, here.duty(0, 0, i, 2), hereBy[i]);
      due("20 NEXT, by when " + i, next.duty(0, 0, i, 2), nextBy[i]);
    }
    due("19 HERE", here.duties(0, 0), 3);
    due("20 no fourth", here.duty(0, 0, 3, 0), NONE);
    // "if THEN matches some TICKS of those (one at least), from its begin on": the least of them is enough.
    PromiseTries x = told("a=b*1 3,c*0 1;a=b,c/b;a=b,c,d/b,c;", 3, 6, 12);
    for (int p = 0; p < 2; p++) due("20 MET at once, " + p, x.duty(p, 0, 0, 2), 0);
    due("20 MET by the shorter", x.duty(2, 0, 0, 2), 1);
    // "else BROKEN, if, whatever TICKS come behind these n, THEN will not match any from there on"
    PromiseTries y = told("a=b,(c&!c);a=b,(c&!c)/b,b;a>(c&!c)/b;a>(c&!c);", 3);
    int[] is = {2, 0, 0, 2}, by = {0, NONE, NONE, 0};
    for (int p = 0; p < 4; p++) {
      due("20 ahead, " + p, y.duty(p, 0, 0, 1), is[p]);
      due("20 ahead, by when, " + p, y.duty(p, 0, 0, 2), by[p]);
      due("17 ahead, " + p, y.verdict(p, 0), is[p]);
    }
    // A CONDITION that one of the 256 BITS alone fulfils can still come, one that none fulfils can not.
    String only = "(a&b&c&d&e&f&g&h)", never = "(a&b&c&d&e&f&g&h&!a)", zero = "(!a&!b&!c&!d&!e&!f&!g&!h)";
    PromiseTries z = told("a>" + only + ";a>" + never + ";a>" + zero + ";", 1);
    due("20 one of 256", z.duty(0, 0, 0, 1), 0);
    due("20 none of 256", z.duty(1, 0, 0, 1), 2);
    due("20 no WIRE at all", z.duty(2, 0, 0, 1), 0);
    due("11 one of 256", z.might(0, 1, 1), 1);
    due("11 none of 256", z.might(1, 1, 1), 0);
    due("9 one", z.fulfilled(0, 1, 0), 1);
    due("9 none", z.fulfilled(1, 1, 0), 0);
    z.tick(255);
    due("20 MET by it", z.duty(0, 0, 0, 1), 1);
    due("20 BROKEN by it", z.duty(2, 0, 0, 1), 2);
  }

  // "By the first n TICKS .. as it was by n less 1, if that is above t and it was DECIDED (1 to 4); else 4 OFF ..;
  // else 2 FAILED ..; else, if one is OPEN, or TICKS might come ..., 0 OPEN; else 1 PASSED ..., 3 EMPTY without"
  private static void verdicts() {
    // Each verdict, once DECIDED, stays, whatever comes: FAILED, PASSED, EMPTY by OFF; OFF by what would fail or pass.
    PromiseTries x = told("a=b~h;", 1, 3, 0, 128, 129, 131);
    int[] is = {2, 1, 3, 4, 4, 4};
    for (int t = 0; t < 6; t++) {
      due("17 TRY " + t, x.verdict(0, t), is[t]);
      due("18 TRY " + t, x.decided(0, t), t);
      due("19 TRY " + t, x.duties(0, t), t == 2 || t == 3 ? 0 : 1);
    }
    PromiseTries off = told("a,b>c~h;", 1, 130, 4, 1, 2, 132, 1, 2, 128);
    due("17 OFF ahead of a DUTY that is OPEN", off.verdict(0, 0), 4);
    due("18 by its TICK", off.decided(0, 0), 1);
    due("17 though the DUTY was MET then", off.duty(0, 0, 0, 1), 1);
    due("17 OFF ahead of PASSED by the same TICK", off.verdict(0, 3), 4);
    due("17 OFF ahead of FAILED by the same TICK", off.verdict(0, 6), 4);
    due("20 the DUTY is BROKEN by it", off.duty(0, 6, 0, 1), 2);
    due("20 by when", off.duty(0, 6, 0, 2), 8);
    // FAILED ahead of OPEN: another DUTY is OPEN, more might come.
    PromiseTries f = told("a*1 5=b*1 1,c*0 1/d,d,d;", 1 + 8, 1);
    due("17 FAILED though more might come", f.verdict(0, 1), 2);
    due("17 FAILED by the first DUTY", f.verdict(0, 0), 2);
    due("18 by when", f.decided(0, 0), 1);
    // OPEN: all DUTIES are MET, but more might come; then none can: PASSED by that TICK.
    PromiseTries o = told("a*1 2=b;", 3);
    due("17 more might come", o.verdict(0, 0), 0);
    due("18 OPEN", o.decided(0, 0), NONE);
    o.tick(0);
    due("17 none can come", o.verdict(0, 0), 1);
    due("18 by this one", o.decided(0, 0), 1);
    // No more can come though IF has a part that can never be: PASSED at once.
    due("17 what can never come does not keep it OPEN", told("a,(b&!b)*0 1=a;", 1).verdict(0, 0), 1);
    // Without DUTIES: OPEN as long as one might come, EMPTY as soon as none can.
    PromiseTries e = told("a,b,c=d;", 1);
    due("17 a DUTY might come", e.verdict(0, 0), 0);
    e.tick(2);
    due("17 it still might", e.verdict(0, 0), 0);
    e.tick(8);
    due("17 it can not", e.verdict(0, 0), 3);
    due("18 EMPTY by this one", e.decided(0, 0), 2);
    due("18 EMPTY at once", e.decided(0, 1), 1);
    // "DUTIES (those up to n less 1)": one that comes behind what decided it does not change it.
    PromiseTries d = told("a,{b/c,d}*0 1=b;", 1, 6, 8);
    due("17 FAILED by the first", d.verdict(0, 0), 2);
    due("18 by TICK 0", d.decided(0, 0), 0);
    due("19 others come behind it", d.duties(0, 0), 3);
    due("20 the second is MET", d.duty(0, 0, 1, 1), 1);
    due("20 the third is BROKEN", d.duty(0, 0, 2, 1), 2);
    due("20 by TICK 2", d.duty(0, 0, 2, 2), 2);
  }

  // "SHEETS 0 to 3 are rows of BYTES (lane 0), CHARS (1), INTS (2) with 0 to 40 CELLS, or nothing (at first)";
  // "the first of these: 1 NULL (nothing), 2 CAST (another lane), 3 INDEX, 4 SIZE (below 0)"
  private static void sheets() {
    for (int k = 0; k < 4; k++) {
      PromiseTries x = new PromiseTries();
      due("26 nothing at first, " + k, x.lay(k, 0, 0), -11);
      due("26 NULL ahead of INDEX, " + k, x.lay(k, -1, 0), -11);
      for (int lane = 0; lane < 3; lane++) {
        due("27 NULL, " + k, x.run(k, lane, -1, 1), 0);
        due("28 NULL, " + k, x.torn(), 1);
      }
      due("26 still nothing, " + k, x.lay(k, 40, 0), -11);
      for (int lane = 0; lane < 3; lane++) {
        due("25 40 CELLS, " + k, x.sheet(k, lane, 40), 1);
        dueAll("25 too many, " + k, BAD, x.sheet(k, lane, 41), x.sheet(k, lane, HIGH));
        dueAll("25 below 0, " + k, -14, x.sheet(k, lane, -1), x.sheet(k, lane, LOW));
        due("26 the first CELL", x.lay(k, 0, 300), 1);
        due("26 the last CELL", x.lay(k, 39, -2), 1);
        dueAll("26 INDEX", -13, x.lay(k, 40, 1), x.lay(k, -1, 1), x.lay(k, LOW, 1), x.lay(k, HIGH, 1));
        x.keeps(0);
        due("27 the first CELL", x.run(k, lane, 0, 1), 1);
        due("27 the last CELL", x.run(k, lane, 39, 1), 1);
        due("28 no FAULT", x.torn(), 0);
        due("27 lowest 8 bits", x.bits(0), 44);
        due("27 lowest 8 bits below 0", x.bits(1), 254);
        for (int f : new int[] {40, -1, LOW, HIGH}) {
          due("27 from " + f, x.run(k, lane, f, 20), 0);
          due("28 INDEX from " + f, x.torn(), 3);
          due("27 CAST from " + f, x.run(k, (lane + 1) % 3, f, 20), 0);
          due("28 CAST ahead of INDEX", x.torn(), 2);
          due("27 none from " + f, x.run(k, (lane + 2) % 3, f, 0), 0);
          due("28 none: no FAULT", x.torn(), 0);
        }
        due("27 behind the last", x.run(k, lane, 38, 3), 2);
        due("28 INDEX behind the last", x.torn(), 3);
        for (int other = 0; other < 4; other++)
          if (other != k) due("25 the others are nothing", x.lay(other, 0, 1), -11);
      }
      due("25 no CELLS", x.sheet(k, 1, 0), 1);
      dueAll("26 no CELL 0", -13, x.lay(k, 0, 1), x.lay(k, -1, 1));
      due("27 no CELL 0", x.run(k, 1, 0, 1), 0);
      due("28 no CELL 0", x.torn(), 3);
      due("27 CAST ahead of INDEX", x.run(k, 0, 0, 1), 0);
      due("28 CAST ahead of INDEX", x.torn(), 2);
    }
  }

  // "A SHEET is a new row of CELLS 0"
  private static void newRows() {
    for (int lane = 0; lane < 3; lane++) {
      PromiseTries x = new PromiseTries();
      x.sheet(2, lane, 40);
      for (int i = 0; i < 40; i++) x.lay(2, i, 255);
      due("25 refused: the CELLS stay", x.sheet(2, lane, -1), -14);
      x.run(2, lane, 0, 20);
      x.run(2, lane, 20, 20);
      for (int i = 0; i < 40; i++) due("26 CELL " + i, x.bits(i), 255);
      for (int n : new int[] {40, 1}) {
        x.sheet(2, (lane + 1) % 3, n);
        x.keeps(0);
        x.run(2, (lane + 1) % 3, 0, 20);
        x.run(2, (lane + 1) % 3, 20, 20);
        due("27 as many as there are", x.rule(1), n);
        for (int i = 0; i < n; i++) due("25 CELL " + i + " of " + n + " anew", x.bits(i), 0);
      }
      x.sheet(2, lane, 40);
      x.keeps(0);
      x.run(2, lane, 0, 20);
      x.run(2, lane, 20, 20);
      for (int i = 0; i < 40; i++) due("25 CELL " + i + " anew", x.bits(i), 0);
    }
  }

  // ================================================================ single promises

  // 2 "A byte (0 to 127)"; "FULL: more than 200"
  private static void feeding() {
    for (int c = -3; c < 131; c++) due("2 feed(" + c + ")", new PromiseTries().feed(c), c < 0 || c > 127 ? BAD : 1);
    PromiseTries x = new PromiseTries();
    for (int i = 1; i <= 200; i++) due("2 how many", x.feed(i % 128), i);
    due("2 FULL", x.feed(0), FULL);
    due("29 200 bytes", x.count(1), 200);
    due("3 n above that", x.end(201), BAD);
    due("3 all", x.end(200), 200);
    due("2 FULL still", x.feed(0), FULL);
    due("3 one less", x.end(199), 200);
    due("2 the 200th", x.feed(0), 200);
  }

  // 10 "(j is i less 1: none)"; "BAD: .. i below 0 or above how many TICKS there are, j below i less 1, no TICK j"
  private static void matchesBounds() {
    for (int n : new int[] {0, 1, 3, 48}) {
      PromiseTries x = told("a*1 9=b/a;", all(n, 1));
      for (int side = 0; side < 2; side++) {
        for (int i : new int[] {-2, -1, 0, 1, n - 1, n, n + 1, LOW, HIGH}) {
          for (int j : new int[] {-3, -2, -1, 0, i - 2, i - 1, i, i + 1, n - 1, n, LOW, HIGH}) {
            boolean bad = i < 0 || i > n || j < i - 1 || j > n - 1;
            long ticks = (long) j - i + 1;
            int want = bad ? BAD : ticks >= 1 && ticks <= (side == 0 ? 9 : 1) ? 1 : 0;
            due("10 matches(0, " + side + ", " + i + ", " + j + ") of " + n, x.matches(0, side, i, j), want);
          }
        }
      }
      for (int side : new int[] {-1, 2, 3}) due("10 side " + side, x.matches(0, side, 0, -1), BAD);
      dueAll("10 p", BAD, x.matches(1, 0, 0, -1), x.matches(-1, 0, 0, -1));
    }
  }

  // 11 "TICKS i on to one that is to come"; "i below 0 or above how many TICKS there are"
  private static void mightBounds() {
    for (int n : new int[] {0, 1, 2, 5}) {
      PromiseTries x = told("a*1 2=(a&!a);", all(n, 1));
      for (int i = -2; i <= n + 2; i++) {
        int want = i < 0 || i > n ? BAD : n - i < 2 ? 1 : 0;
        due("11 might(0, 0, " + i + ") of " + n, x.might(0, 0, i), want);
        due("11 might(0, 1, " + i + ") of " + n, x.might(0, 1, i), want == BAD ? BAD : 0);
      }
      for (int side : new int[] {-1, 2, 3, LOW, HIGH}) due("11 side " + side, x.might(0, side, 0), BAD);
      dueAll("11 p", BAD, x.might(1, 0, 0), x.might(-1, 0, 0), x.might(LOW, 0, 0), x.might(HIGH, 0, 0));
      dueAll("11 i", BAD, x.might(0, 0, LOW), x.might(0, 0, HIGH));
    }
    // What has matched by the TICKS that there are is none that is to come.
    PromiseTries y = told("a,b=a,b,c/d;", 1, 2);
    due("11 it has matched", y.matches(0, 0, 0, 1), 1);
    due("11 no more", y.might(0, 0, 0), 0);
    due("11 the longer one", y.might(0, 1, 0), 1);
    due("11 from the end on", y.might(0, 1, 2), 1);
    y.keeps(1);
    due("11 less TICKS", y.might(0, 0, 0), 1);
    y.put(0, 2);
    due("11 another TICK", y.might(0, 0, 0), 0);
  }

  // 12 "how many TRIES FAILED by it"
  private static void failedByIt() {
    PromiseTries x = told("a*1 9=c*9 9,b;a>d;", all(9, 5));
    due("12 nine of the first, one of the second", x.tick(0), 9 + 1);
    due("12 none again", x.tick(0), 0);
    PromiseTries most = told(times("a>{b*9 9,b*9 9}*2 2,b*4 4;", 4));
    for (int t = 0; t < 41; t++) due("12 none yet " + t, most.tick(3), 0);
    due("12 all that are OPEN, of four", most.tick(0), 4 * 40);
    due("6 all of them", most.rule(4), 4 * 40);
    due("6 MET by 40", most.rule(3), 4);
    PromiseTries y = told("a=b~h;");
    due("12 OFF is not FAILED", y.tick(129), 0);
    due("12 FAILED", y.tick(1), 1);
    y.draw(3, 5);
    y.put(0, 1);
    due("12 those by others are not told", y.tick(0), 0);
    due("12 by it alone", y.tick(1), 1);
    y.keeps(1);
    due("12 behind keeps", y.tick(1), 1);
  }

  // 14 "TICK t has other BITS: what it had"; 15 "THE TRACE keeps its first n TICKS: how many it had"
  private static void changed() {
    PromiseTries x = told("a>b~h;", all(48, 3));
    due("6 all but the last", x.rule(3), 47);
    due("14 the first", x.put(0, 0), 3);
    due("17 EMPTY", x.verdict(0, 0), 3);
    due("14 the last", x.put(47, 128), 3);
    due("17 TRY 46 is OFF", x.verdict(0, 46), 4);
    due("17 TRY 47, too", x.verdict(0, 47), 4);
    due("17 TRY 45 was PASSED by 46", x.decided(0, 45), 46);
    due("14 the same BITS", x.put(47, 128), 128);
    due("14 in the middle", x.put(20, 0), 3);
    due("17 FAILED by it", x.verdict(0, 19), 2);
    dueAll("14 no such TICK", BAD, x.put(48, 0), x.put(-1, 0));
    due("15 48 of 48", x.keeps(48), 48);
    dueAll("15 above", BAD, x.keeps(49), x.keeps(HIGH), x.keeps(-1), x.keeps(LOW));
    due("15 20 of 48", x.keeps(20), 48);
    due("17 OPEN again", x.verdict(0, 19), 0);
    due("18 OPEN again", x.decided(0, 19), NONE);
    dueAll("15 no TICK 20", BAD, x.bits(20), x.put(20, 0), x.verdict(0, 20));
    due("15 none", x.keeps(0), 20);
    due("15 none of none", x.keeps(0), 0);
    due("15 above none", x.keeps(1), BAD);
    due("12 what was there is gone", x.tick(0), 0);
    due("13 what came", x.bits(0), 0);
  }

  // 16 "By a seed n (1 to 20) TICKS more"; "BAD; FULL: more than 48"; "bits 16 to 30 of it are got"
  private static void drawing() {
    for (int n = -1; n <= 22; n++) due("16 n " + n, new PromiseTries().draw(5, n), n < 1 || n > 20 ? BAD : n);
    for (int have = 27; have <= 48; have++)
      for (int n = 1; n <= 20; n += n == 1 ? 18 : 1) {
        PromiseTries x = told("", all(have, 1));
        due("16 " + n + " behind " + have, x.draw(5, n), have + n > 48 ? FULL : have + n);
        due("6 TICKS", x.rule(1), have + n > 48 ? have : have + n);
      }
    // By the seed 1 this is a well known row: 16838, then 5758, of which modulo 256 are 198, 126.
    PromiseTries x = new PromiseTries();
    x.draw(1, 1);
    due("16 by hand", x.bits(0), 198 & 126);
    for (int seed : new int[] {0, -1, LOW, HIGH, 65536}) {
      PromiseTries y = new PromiseTries(), z = new PromiseTries();
      y.draw(seed, 20);
      for (int n = 1; n <= 3; n++) z.draw(seed, n);
      for (int t = 0; t < 3; t++) due("16 each call by its seed", z.bits(3 + t), y.bits(t));
    }
  }

  // 20 "BAD: p, t, i below 0, what; NONE: there are not so many"
  private static void dutyBounds() {
    PromiseTries x = told("a*1 9=b;", all(9, 3));
    for (int t = 0; t < 9; t++) {
      int n = 9 - t;
      due("19 TRY " + t, x.duties(0, t), n);
      due("20 the last of TRY " + t, x.duty(0, t, n - 1, 0), 8);
      dueAll("20 no more of TRY " + t, NONE, x.duty(0, t, n, 0), x.duty(0, t, n, 1), x.duty(0, t, n, 2), x.duty(0, t, HIGH, 0));
      dueAll("20 BAD of TRY " + t, BAD, x.duty(0, t, -1, 0), x.duty(0, t, LOW, 0), x.duty(0, t, 0, 3), x.duty(0, t, 0, -1),
          x.duty(0, t, n, 3));
    }
    dueAll("20 p, t", BAD, x.duty(1, 0, 0, 0), x.duty(-1, 0, 0, 0), x.duty(0, 9, 0, 0), x.duty(0, -1, 0, 0));
    PromiseTries most = told("{{a/b}*5 5}*0 3,{a/b}*1 1,{a/b}*0 4=c*0 1,a;", all(48, 3));
    due("19 20 of them", most.duties(0, 0), 20);
    due("20 the last", most.duty(0, 0, 19, 0), 19);
    due("20 no more", most.duty(0, 0, 20, 0), NONE);
    PromiseTries forty = told("{a*1 5}*1 8=a;", all(48, 1));
    due("19 40", forty.duties(0, 0), 40);
    due("19 40 at the end", forty.duties(0, 8), 40);
    due("19 39", forty.duties(0, 9), 39);
    due("20 the 40th", forty.duty(0, 8, 39, 0), 47);
    due("17 it is PASSED", forty.verdict(0, 8), 1);
    due("18 by the last", forty.decided(0, 8), 47);
    due("6 DUTIES of all", forty.rule(7), 9 * 40 + 39 * 40 / 2);
  }

  // 21 "are v (0 to 4)"; 22 "NONE"
  private static void triesBounds() {
    PromiseTries x = told("a=b;");
    for (int v = -2; v < 7; v++) {
      due("21 v " + v + " without TICKS", x.tries(0, v), v < 0 || v > 4 ? BAD : 0);
      due("22 v " + v + " without TICKS", x.first(0, v), v < 0 || v > 4 ? BAD : NONE);
    }
    PromiseTries y = told("a>b~h;", 0, 0, 1, 3, 1, 0, 1, 128, 1);
    int[] many = {1, 1, 2, 3, 2}, first = {8, 2, 3, 0, 6};
    for (int v = 0; v < 5; v++) {
      due("21 v " + v, y.tries(0, v), many[v]);
      due("22 v " + v, y.first(0, v), first[v]);
      due("6 rule " + (v + 2), y.rule(v + 2), many[v]);
    }
    dueAll("21 p", BAD, y.tries(1, 0), y.tries(-1, 0), new PromiseTries().tries(0, 0));
    dueAll("22 p", BAD, y.first(1, 0), y.first(-1, 0), new PromiseTries().first(0, 0));
  }

  // 23 "IMAGE k (0, 1) is THE TRACE: whether there was one"; 24 "STATE: there is none"
  private static void imagesBounds() {
    for (int k = 0; k < 2; k++) {
      PromiseTries x = told("a=b;", all(48, 3));
      due("24 none, " + k, x.back(k), STATE);
      due("23 the first, " + k, x.keep(k), 0);
      due("24 the other is none", x.back(1 - k), STATE);
      due("29 one", x.count(0), 1);
      due("23 again, " + k, x.keep(k), 1);
      x.keeps(0);
      due("24 48, " + k, x.back(k), 48);
      due("13 its last", x.bits(47), 3);
      due("17 its last", x.verdict(0, 47), 1);
      x.keeps(0);
      due("23 none are an IMAGE, too", x.keep(1 - k), 0);
      due("29 two", x.count(0), 2);
      due("24 48 again", x.back(k), 48);
      due("24 none", x.back(1 - k), 0);
      due("6 none", x.rule(1), 0);
      due("24 still there", x.back(k), 48);
      due("12 FULL by it", x.tick(1), FULL);
      // Neither is the other's: what comes behind changes no IMAGE.
      x.put(47, 1);
      x.keep(1 - k);
      x.keeps(47);
      due("24 as it was kept", x.back(k), 48);
      due("13 as it was kept", x.bits(47), 3);
      due("24 as it was kept then", x.back(1 - k), 48);
      due("13 as it was kept then", x.bits(47), 1);
      due("17 by these TICKS", x.verdict(0, 47), 2);
    }
  }

  // 27 "n (0 to 20)"; "how many came: by a FAULT no more .., nor if there are 48 (no CELL is taken then: torn() tells 0; of
  // n 0, too)"; 28 "of the latest run() that was not BAD"
  private static void running() {
    for (int n = -1; n <= 22; n++) {
      PromiseTries x = told("a=b;");
      x.sheet(0, 0, 40);
      due("27 n " + n, x.run(0, 0, 0, n), n < 0 || n > 20 ? BAD : n);
      due("6 TICKS", x.rule(1), n < 0 || n > 20 ? 0 : n);
      due("28 n " + n, x.torn(), 0);
    }
    for (int have = 44; have <= 48; have++) {
      for (int cells = 0; cells <= 6; cells++) {
        PromiseTries x = told("a=b;", all(have, 0));
        x.sheet(3, 2, cells);
        for (int i = 0; i < cells; i++) x.lay(3, i, i + 1);
        int room = 48 - have;
        due("27 " + cells + " CELLS behind " + have, x.run(3, 2, 0, 20), Math.min(room, cells));
        due("28 " + cells + " CELLS behind " + have, x.torn(), cells < room ? 3 : 0);
        for (int i = 0; i < Math.min(room, cells); i++) due("27 in order", x.bits(have + i), i + 1);
        due("27 another lane", x.run(3, 1, 0, 1), 0);
        due("28 CAST but at 48", x.torn(), cells >= room ? 0 : 2);
        due("27 nothing", x.run(2, 1, 0, 1), 0);
        due("28 NULL but at 48", x.torn(), cells >= room ? 0 : 1);
        x.run(2, 1, 0, 0);
        due("28 n 0", x.torn(), 0);
      }
    }
    PromiseTries x = new PromiseTries();
    x.run(0, 0, 0, 1);
    dueAll("27 BAD", BAD, x.run(-1, 0, 0, 0), x.run(4, 0, 0, 0), x.run(0, -1, 0, 0), x.run(0, 3, 0, 0), x.run(0, 0, 0, -1),
        x.run(0, 0, 0, 21));
    due("28 a BAD one is not the latest", x.torn(), 1);
    PromiseTries y = told("a=b;", 0);
    y.sheet(0, 1, 2);
    y.lay(0, 1, 65536 + 1);
    due("27 two and no more", y.run(0, 1, 0, 3), 2);
    due("17 a TRY of each", y.verdict(0, 2), 2);
    due("12 those by run() are not told", y.tick(1), 1);
  }

  // 29 "2 CELLS of SHEET 0 (NONE: nothing)"
  private static void counting() {
    PromiseTries x = new PromiseTries();
    due("29 nothing", x.count(2), NONE);
    for (int n : new int[] {0, 1, 39, 40}) {
      x.sheet(0, n % 3, n);
      due("29 " + n + " CELLS", x.count(2), n);
    }
    dueAll("25 refused", BAD, x.sheet(0, 0, 41));
    due("29 40 still", x.count(2), 40);
    x.sheet(1, 0, 3);
    due("29 of SHEET 0", x.count(2), 40);
    dueAll("29 BAD", BAD, x.count(-1), x.count(3), x.count(LOW), x.count(HIGH));
  }

  public static void main(String[] args) {
    theFirstThatFits();
    whatIsRefusedChangesNothing();
    wires();
    ticks();
    promises();
    matching();
    tape();
    tokens();
    everyByte();
    numbering();
    bounds();
    theFirstFault();
    nesting();
    theDeepest();
    matchesNoneToo();
    tooLong();
    toldAgain();
    nothingIsLeft();
    duties();
    verdicts();
    sheets();
    newRows();
    feeding();
    matchesBounds();
    mightBounds();
    failedByIt();
    changed();
    drawing();
    dutyBounds();
    triesBounds();
    imagesBounds();
    running();
    counting();
    System.out.println(asked + " answers asked, " + wrong + " not as due");
    if (wrong != 0) System.exit(1);
  }
}
