/** For each promise of the document, in order: ordinary inputs, the edges that it names, wrong inputs. */
public final class PromiseByPromise {
  private static final int LOW = Integer.MIN_VALUE, HIGH = Integer.MAX_VALUE;
  private static int wrong = 0;
  private static int asked = 0;

  private static void due(String what, int got, int want) {
    asked++;
    if (got != want) { wrong++; System.out.println(what + ": answered " + got + ", due is " + want); }
  }

  private static PromiseTries fed(String text) {
    PromiseTries x = new PromiseTries();
    feedAll(x, text);
    return x;
  }

  private static void feedAll(PromiseTries x, String text) {
    for (int i = 0; i < text.length(); i++) due("feed of [" + text + "] at " + i, x.feed(text.charAt(i)), x.count(1));
  }

  private static int tell(PromiseTries x, String text) {
    feedAll(x, text);
    return x.text();
  }

  private static PromiseTries told(String text) {
    PromiseTries x = fed(text);
    due("no fault in [" + text + "]", Math.min(0, x.text()), 0);
    return x;
  }

  private static PromiseTries told(String text, int... ticks) {
    PromiseTries x = told(text);
    for (int bits : ticks) x.tick(bits);
    return x;
  }

  private static void faulty(String text, int place, int fault) {
    PromiseTries x = fed(text);
    due("text() of [" + text + "]", x.text(), -10 - place);
    due("fault() of [" + text + "]", x.fault(), fault);
    due("tape after [" + text + "]", x.count(1), 0);
  }

  private static String times(String s, int n) {
    StringBuilder b = new StringBuilder();
    for (int i = 0; i < n; i++) b.append(s);
    return b.toString();
  }

  private static void promise1New() {
    PromiseTries x = new PromiseTries();
    for (int what = 0; what < 8; what++) due("1 rule " + what, x.rule(what), 0);
    due("1 fault", x.fault(), 0);
    due("1 torn", x.torn(), 0);
    due("1 images", x.count(0), 0);
    due("1 tape", x.count(1), 0);
    due("1 sheet 0", x.count(2), -4);
    for (int k = 0; k < 4; k++) due("1 sheet " + k, x.lay(k, 0, 1), -11);
    for (int k = 0; k < 2; k++) due("1 image " + k, x.back(k), -2);
    due("1 no promise", x.promise(0, 0), -1);
    due("1 no tick", x.bits(0), -1);
    PromiseTries one = told("a=b;", 1), other = new PromiseTries();
    due("1 objects are their own", other.rule(0) + other.rule(1), 0);
    due("1 told", one.rule(0), 1);
  }

  private static void promise2Feed() {
    PromiseTries x = new PromiseTries();
    due("2 least byte", x.feed(0), 1);
    due("2 greatest byte", x.feed(127), 2);
    for (int c : new int[] {-1, 128, 255, LOW, HIGH}) due("2 bad " + c, x.feed(c), -1);
    due("2 bad changes nothing", x.count(1), 2);
    for (int i = 2; i < 200; i++) due("2 byte " + i, x.feed(' '), i + 1);
    due("2 full", x.feed(' '), -3);
    due("2 bad ahead of full", x.feed(128), -1);
    due("2 stays full", x.count(1), 200);
    due("2 room again", x.end(199), 200);
    due("2 last place", x.feed(' '), 200);
  }

  private static void promise3End() {
    PromiseTries x = fed("a=b;c");
    due("3 above", x.end(6), -1);
    due("3 below", x.end(-1), -1);
    due("3 far", x.end(HIGH), -1);
    due("3 far below", x.end(LOW), -1);
    due("3 all", x.end(5), 5);
    due("3 one less", x.end(4), 5);
    due("3 its first bytes stay", x.text(), 1);
    due("3 empty", x.end(0), 0);
    due("3 above empty", x.end(1), -1);
    feedAll(x, "abc");
    due("3 to none", x.end(0), 3);
    due("3 none left", x.count(1), 0);
  }

  private static void promise4Text() {
    PromiseTries x = new PromiseTries();
    due("4 empty", x.text(), 0);
    due("4 blanks", tell(x, "   "), 0);
    due("4 four", tell(x, "a=b;a>b;b=a~c;{a}=b;"), 4);
    due("4 rule", x.rule(0), 4);
    due("4 blanks everywhere", tell(x, "  ! a , { b / c } * 1   2 > ( a | b & ! c ) ~ a | b & c ;  "), 1);
    due("4 its conditions", x.promise(0, 2), 3);
    due("4 no blanks needed", tell(x, "a*1 2,b*0 9=c;"), 1);
    due("4 figures with 0 ahead", tell(x, "a*01 09=c;"), 1);
    due("4 by 1 to 9", x.promise(0, 8), 9);
    x.tick(1);
    x.tick(2);
    x.sheet(0, 1, 7);
    x.keep(0);
    x.keep(1);
    due("4 fault", tell(x, "a=b;a"), -15);
    due("4 the tape is empty by a fault", x.count(1), 0);
    due("4 what was told stays", x.promise(0, 8), 9);
    due("4 images stay by a fault", x.count(0), 2);
    due("4 failed by the old promise", x.verdict(0, 0), 2);
    due("4 taken", tell(x, "a=a;c=d;"), 2);
    due("4 the tape is empty", x.count(1), 0);
    due("4 the trace stays", x.rule(1), 2);
    due("4 its bits", x.bits(1), 2);
    due("4 sheets stay", x.count(2), 7);
    due("4 images are gone", x.count(0), 0);
    due("4 image 0 is gone", x.back(0), -2);
    due("4 tries are by the new promises", x.verdict(0, 0), 1);
    due("4 of the second", x.verdict(1, 0), 3);
    due("4 an empty text tells none", x.text(), 0);
    due("4 none", x.rule(0), 0);
    due("4 told once more", tell(x, "a*2 3=b,c*0 1/d;"), 1);
    due("4 and again", tell(x, "{a,b}*1 2/c>{a/b,c*0 1}*2 2~a;a/b=c/d/e;"), 2);
    int[][] all = {{1, 1, 3, 3, 5, 6, 1, 2, 4, 4}, {0, 0, 2, 3, 2, 3, 1, 1, 1, 1}};
    for (int p = 0; p < 2; p++)
      for (int what = 0; what < 10; what++) due("4 promise " + p + ", " + what, x.promise(p, what), all[p][what]);
    due("4 200 bytes", tell(new PromiseTries(), times("!", 196) + "a=b;"), 1);
  }

  private static void promise5Fault() {
    faulty("i", 0, 1);
    faulty("a=b;A", 4, 1);
    faulty("a=b;\t", 4, 1);
    faulty("a=" + (char) 0, 2, 1);
    faulty("a\n=b;", 1, 1);
    faulty("a=b#", 3, 1);
    faulty("a*100 1=b;", 2, 1);
    faulty("a*1 123=b;", 4, 1);
    faulty("a 1234", 2, 1);
    faulty("ab=c;", 1, 2);
    faulty("a", 1, 2);
    faulty("a   ", 4, 2);
    faulty("a=b", 3, 2);
    faulty("a=b;a=b", 7, 2);
    faulty(";", 0, 2);
    faulty("=a;", 0, 2);
    faulty("a=;", 2, 2);
    faulty("a=b~;", 4, 2);
    faulty("a=b~a,b;", 5, 2);
    faulty("a~b=c;", 1, 2);
    faulty("a=b=c;", 3, 2);
    faulty("a&b=c;", 1, 2);
    faulty("(a,b)=c;", 2, 2);
    faulty("(a=c;", 2, 2);
    faulty("{a=c;", 2, 2);
    faulty("{a)=c;", 2, 2);
    faulty("(a}=c;", 2, 2);
    faulty("a}=c;", 1, 2);
    faulty("({a})=c;", 1, 2);
    faulty("!{a}=c;", 1, 2);
    faulty("!=c;", 1, 2);
    faulty("{}=c;", 1, 2);
    faulty("()=c;", 1, 2);
    faulty("a*=b;", 2, 2);
    faulty("a*1=b;", 3, 2);
    faulty("a*1,2=b;", 3, 2);
    faulty("a*1 2*1 2=b;", 5, 2);
    faulty("a*1 2 3=b;", 6, 2);
    faulty("(a*1 2)=b;", 2, 2);
    faulty("1=b;", 0, 2);
    faulty("a=b~{a};", 4, 2);
    faulty("a*10 @", 2, 3);
    faulty("a*10 20=b;", 2, 3);
    faulty("a*99 1=b;", 2, 3);
    faulty("a*0 0=b;", 4, 3);
    faulty("a*1 0=b;", 4, 3);
    faulty("a*3 2=b;", 4, 3);
    faulty("a*9 10=b;", 4, 3);
    faulty("a*12=b;", 2, 3);
    faulty(times("a=b;", 4) + "a=b;", 16, 4);
    faulty(times("a=b;", 4) + " !", 17, 4);
    faulty(times("a=b;", 4) + "{", 16, 4);
    faulty(times("a=b;", 4) + "(", 16, 4);
    faulty(times("a=b;", 4) + "i", 16, 1);
    faulty(times("a=b;", 4) + "100", 16, 1);
    faulty(times("a=b;", 4) + "1", 16, 2);
    faulty(times("a=b;", 4) + ";", 16, 2);
    faulty(times("{", 9), 8, 4);
    faulty(times("(", 9), 8, 4);
    faulty("{{{{((((a|(", 10, 4);
    faulty("{{{{{{{{a,!(", 11, 4);
    faulty("a=b~((((((((a&(", 14, 4);
    faulty(times("{", 8) + "a{", 9, 2);
    faulty(times("{", 8), 8, 2);
    due("5 eight others are too many, seven not", tell(new PromiseTries(),
        times("{", 8) + "a" + times("}", 8) + "=" + times("(", 8) + "a" + times(")", 8) + ";"), 1);
    due("5 ended ones do not count", tell(new PromiseTries(), times("{a},(b),", 9) + "{{a}}=(b);"), 1);
    faulty("a*0 1=b;i", 7, 5);
    faulty("a=b*0 3;", 7, 5);
    faulty("a*0 1,b*0 2=c;", 13, 5);
    faulty("a/b*0 1=c;", 9, 5);
    faulty("{a*0 1}*3 4=c;", 13, 5);
    faulty("a*0 1=b~c;", 9, 5);
    faulty("a=b;a=b*0 1  ;", 13, 5);
    faulty("{a*9 9}*9 9=b*0 1;", 17, 5);
    faulty("{a*5 9}*1 4,a*0 4,a=b;", 21, 6);
    faulty("a={a/b,c/d,e}*8 9;", 17, 6);
    faulty(times("{", 8) + "a" + times("}*9 9", 8) + "=b;", 51, 6);
    faulty(times("a,", 40) + "a=b;i", 83, 6);
    due("5 40 long", tell(new PromiseTries(), times("a,", 39) + "a={a*2 2,b*3 3}*8 8;"), 1);
    PromiseTries x = new PromiseTries();
    due("5 a fault", tell(x, "a"), -11);
    due("5 told", x.fault(), 2);
    due("5 taken", tell(x, "a=b;"), 1);
    due("5 none then", x.fault(), 0);
    due("5 another", tell(x, "i"), -10);
    x.feed('a');
    x.tick(1);
    due("5 the latest text's", x.fault(), 1);
  }

  private static void promise6Rule() {
    // a then b: tries 0 FAILED by 1, 1 EMPTY, 2 OFF by 3, 3 OFF by 3, 4 PASSED by 5, 5 EMPTY, 6 OPEN; the other one: all by a.
    PromiseTries x = told("a,b=c~h;a=a;", 1, 2, 1, 128, 1, 6, 1);
    int[] want = {2, 7, 1, 1 + 4, 1, 2 + 3, 2, 2 + 4};
    for (int what = 0; what < 8; what++) due("6 rule " + what, x.rule(what), want[what]);
    for (int what : new int[] {-1, 8, LOW, HIGH}) due("6 bad " + what, x.rule(what), -1);
  }

  private static void promise7Promise() {
    PromiseTries x = told("a,{b/c,d}*2 3 > !!(a|b)*1 9,c*0 1 ~ a&b; a=b;");
    int[] want = {1, 1, 4, 2, 10, 10, 3, 1, 7, 10};
    for (int what = 0; what < 10; what++) due("7 promise 0, " + what, x.promise(0, what), want[what]);
    int[] other = {0, 0, 1, 1, 1, 1, 1, 1, 1, 1};
    for (int what = 0; what < 10; what++) due("7 promise 1, " + what, x.promise(1, what), other[what]);
    for (int p : new int[] {-1, 2, 4, LOW, HIGH}) due("7 no promise " + p, x.promise(p, 0), -1);
    for (int what : new int[] {-1, 10, LOW, HIGH}) due("7 bad " + what, x.promise(0, what), -1);
    PromiseTries y = told("{a*0 2,b}*0 3,c/d*4 5={a/b*0 1}*2 2,a;");
    due("7 long of IF", y.promise(0, 4), 3 * 3 + 1 + 5);
    due("7 fewest of IF", y.promise(0, 6), 1);
    due("7 most of IF", y.promise(0, 8), 10);
    due("7 fewest of THEN", y.promise(0, 7), 1);
    due("7 most of THEN", y.promise(0, 9), 3);
  }

  private static void promise8Fulfils() {
    PromiseTries x = told("a,(b|c&!d),!!!h=g~e|f&!a; a=b;");
    for (int bits = 0; bits < 256; bits++) {
      boolean a = (bits & 1) != 0, b = (bits & 2) != 0, c = (bits & 4) != 0, d = (bits & 8) != 0;
      boolean e = (bits & 16) != 0, f = (bits & 32) != 0, g = (bits & 64) != 0, h = (bits & 128) != 0;
      due("8 a by " + bits, x.fulfils(0, 0, 0, bits), a ? 1 : 0);
      due("8 b|c&!d by " + bits, x.fulfils(0, 0, 1, bits), b || c && !d ? 1 : 0);
      due("8 !!!h by " + bits, x.fulfils(0, 0, 2, bits), h ? 0 : 1);
      due("8 g by " + bits, x.fulfils(0, 1, 0, bits), g ? 1 : 0);
      due("8 off by " + bits, x.fulfils(0, 2, 77, bits), e || f && !a ? 1 : 0);
    }
    due("8 e of OFF is not asked", x.fulfils(0, 2, LOW, 16), 1);
    due("8 no off", x.fulfils(1, 2, 0, 0), -1);
    for (int bits : new int[] {-1, 256, LOW, HIGH}) due("8 bits " + bits, x.fulfils(0, 0, 0, bits), -1);
    due("8 bits of OFF", x.fulfils(0, 2, 0, 256), -1);
    for (int e : new int[] {-1, 3, LOW, HIGH}) due("8 e " + e, x.fulfils(0, 0, e, 0), -1);
    due("8 e of THEN", x.fulfils(0, 1, 1, 0), -1);
    for (int side : new int[] {-1, 3, LOW, HIGH}) due("8 side " + side, x.fulfils(0, side, 0, 0), -1);
    for (int p : new int[] {-1, 2, LOW, HIGH}) due("8 p " + p, x.fulfils(p, 0, 0, 0), -1);
  }

  private static void promise9Fulfilled() {
    PromiseTries x = told("a,(b|c),(a&!a),(a|!a)=(a&b&c&d&e&f&g&h)~(a|b)&c; a=b;");
    due("9 a", x.fulfilled(0, 0, 0), 128);
    due("9 b|c", x.fulfilled(0, 0, 1), 192);
    due("9 none", x.fulfilled(0, 0, 2), 0);
    due("9 all", x.fulfilled(0, 0, 3), 256);
    due("9 one", x.fulfilled(0, 1, 0), 1);
    due("9 off", x.fulfilled(0, 2, -5), 96);
    due("9 no off", x.fulfilled(1, 2, 0), -1);
    for (int e : new int[] {-1, 4, LOW, HIGH}) due("9 e " + e, x.fulfilled(0, 0, e), -1);
    for (int side : new int[] {-1, 3, LOW, HIGH}) due("9 side " + side, x.fulfilled(0, side, 0), -1);
    for (int p : new int[] {-1, 2, LOW, HIGH}) due("9 p " + p, x.fulfilled(p, 0, 0), -1);
  }

  private static void promise10Matches() {
    PromiseTries x = told("{a,b*0 1}*1 2=c/d,c;", 1, 2, 1, 1, 8, 4);
    int[][] yes = {{0, 0}, {0, 1}, {0, 2}, {2, 2}, {2, 3}, {3, 3}};
    for (int i = 0; i < 6; i++) {
      for (int j = i - 1; j < 6; j++) {
        int want = 0;
        for (int[] y : yes) if (y[0] == i && y[1] == j) want = 1;
        due("10 IF " + i + " to " + j, x.matches(0, 0, i, j), want);
      }
    }
    due("10 THEN c", x.matches(0, 1, 5, 5), 1);
    due("10 THEN d, c", x.matches(0, 1, 4, 5), 1);
    due("10 THEN d", x.matches(0, 1, 4, 4), 0);
    due("10 none behind the last", x.matches(0, 1, 6, 5), 0);
    due("10 none at the first", x.matches(0, 0, 0, -1), 0);
    due("10 no tick 6", x.matches(0, 0, 6, 6), -1);
    due("10 no tick j", x.matches(0, 0, 2, 6), -1);
    due("10 i above", x.matches(0, 0, 7, 6), -1);
    due("10 j below", x.matches(0, 0, 2, 0), -1);
    due("10 i below", x.matches(0, 0, -1, 0), -1);
    due("10 i below, none", x.matches(0, 0, -1, -2), -1);
    due("10 far", x.matches(0, 0, LOW, HIGH), -1);
    due("10 far i", x.matches(0, 0, HIGH, HIGH), -1);
    due("10 far j", x.matches(0, 0, 0, HIGH), -1);
    due("10 far j below", x.matches(0, 0, 0, LOW), -1);
    for (int side : new int[] {-1, 2, LOW, HIGH}) due("10 side " + side, x.matches(0, side, 0, 0), -1);
    for (int p : new int[] {-1, 1, LOW, HIGH}) due("10 p " + p, x.matches(p, 0, 0, 0), -1);
    PromiseTries z = told("{a*0 1,b*0 1}*2 3,c={a/b,c}*0 2,d;", 1, 1, 1, 4, 2, 4, 2, 4, 8);
    int[] begins = {0, 1, 2, 3, 4, 5}, ends = {3, 3, 3, 3, 5, 5};
    for (int k = 0; k < 6; k++) due("10 parts that may be none, from " + k, z.matches(0, 0, begins[k], ends[k]), 1);
    z.put(4, 1);
    due("10 b, then c", z.matches(0, 1, 6, 8), 1);
    due("10 twice, and d", z.matches(0, 1, 4, 8), 0);
    z.put(5, 2);
    z.put(6, 4);
    z.put(7, 8);
    due("10 a, then b, c, and d", z.matches(0, 1, 4, 7), 1);
    due("10 d alone", z.matches(0, 1, 8, 8), 1);
    PromiseTries y = told(times("a,", 39) + "a=a*9 9,a*1 9,{a*2 2}*1 9;");
    for (int i = 0; i < 48; i++) y.tick(1);
    due("10 40 long", y.matches(0, 0, 8, 47), 1);
    due("10 39", y.matches(0, 0, 9, 47), 0);
    due("10 41", y.matches(0, 0, 7, 47), 0);
    due("10 12 at least", y.matches(0, 1, 0, 11), 1);
    due("10 36 at most", y.matches(0, 1, 0, 35), 1);
    due("10 37", y.matches(0, 1, 0, 36), 0);
    due("10 11", y.matches(0, 1, 0, 10), 0);
  }

  private static void promise11Might() {
    PromiseTries x = told("a,b,(c&!c)/a,b*1 2=(a&!a);a,b=b*1 3,{c,(d&!d)}*0 1;", 1, 2);
    due("11 a second b", x.might(0, 0, 0), 1);
    due("11 not by b", x.might(0, 0, 1), 0);
    due("11 anew", x.might(0, 0, 2), 1);
    due("11 can not be fulfilled", x.might(0, 1, 2), 0);
    due("11 can not be fulfilled, from 0", x.might(0, 1, 0), 0);
    due("11 has matched, no more", x.might(1, 0, 0), 0);
    due("11 some more", x.might(1, 1, 1), 1);
    x.tick(2);
    due("11 no third b", x.might(0, 0, 0), 0);
    x.tick(2);
    due("11 behind three b only what can not be", x.might(1, 1, 1), 0);
    due("11 behind two b", x.might(1, 1, 2), 1);
    for (int i : new int[] {-1, 5, LOW, HIGH}) due("11 i " + i, x.might(0, 0, i), -1);
    for (int side : new int[] {-1, 2, LOW, HIGH}) due("11 side " + side, x.might(0, side, 0), -1);
    for (int p : new int[] {-1, 2, LOW, HIGH}) due("11 p " + p, x.might(p, 0, 0), -1);
  }

  private static void promise12Tick() {
    PromiseTries x = told("a=b,c;a>b;d=(a&!a);d>(a&!a);");
    due("12 first fails at once", x.tick(1), 1);
    due("12 NEXT broken", x.tick(0), 1);
    due("12 one of two kinds", x.tick(3), 0);
    due("12 c missing, b missing", x.tick(0), 2);
    due("12 THEN that can never be", x.tick(8), 2);
    due("12 failed before are not told again", x.tick(0), 0);
    due("12 bad", x.tick(-1), -1);
    due("12 bad above", x.tick(256), -1);
    due("12 bad far", x.tick(HIGH), -1);
    due("12 bad changes nothing", x.rule(1), 6);
    PromiseTries y = told("a*1 3=c*3 3;", 5, 5);
    due("12 two tries fail by one tick", y.tick(0), 2);
    PromiseTries z = told("a=b;");
    for (int i = 0; i < 48; i++) due("12 tick " + i, z.tick(i % 2), i % 2);
    due("12 full", z.tick(1), -3);
    due("12 bad ahead of full", z.tick(256), -1);
    due("12 48", z.rule(1), 48);
    PromiseTries n = new PromiseTries();
    due("12 no promises", n.tick(255), 0);
    due("12 tick of 255", n.bits(0), 255);
  }

  private static void promise13Bits() {
    PromiseTries x = told("a=b;", 0, 255, 7);
    due("13 least", x.bits(0), 0);
    due("13 greatest", x.bits(1), 255);
    due("13 last", x.bits(2), 7);
    for (int t : new int[] {-1, 3, 48, LOW, HIGH}) due("13 bad " + t, x.bits(t), -1);
  }

  private static void promise14Put() {
    PromiseTries x = told("a>b;", 1, 0);
    due("14 broken", x.verdict(0, 0), 2);
    due("14 had", x.put(1, 2), 0);
    due("14 met now", x.verdict(0, 0), 1);
    due("14 had then", x.put(1, 255), 2);
    due("14 has", x.bits(1), 255);
    due("14 a new duty", x.verdict(0, 1), 0);
    due("14 not the first", x.put(0, 0), 1);
    due("14 empty", x.verdict(0, 0), 3);
    for (int t : new int[] {-1, 2, 48, LOW, HIGH}) due("14 t " + t, x.put(t, 0), -1);
    for (int bits : new int[] {-1, 256, LOW, HIGH}) due("14 bits " + bits, x.put(0, bits), -1);
    due("14 bad changes nothing", x.bits(0), 0);
  }

  private static void promise15Keeps() {
    PromiseTries x = told("a=b~h;", 1, 3, 128);
    due("15 above", x.keeps(4), -1);
    due("15 below", x.keeps(-1), -1);
    due("15 far", x.keeps(HIGH), -1);
    due("15 far below", x.keeps(LOW), -1);
    due("15 all", x.keeps(3), 3);
    due("15 two", x.keeps(2), 3);
    due("15 gone", x.bits(2), -1);
    due("15 passed", x.rule(3), 1);
    due("15 failed", x.rule(4), 1);
    due("15 no off more", x.rule(6), 0);
    due("15 none", x.keeps(0), 2);
    due("15 none left", x.rule(1), 0);
    due("15 none of none", x.keeps(0), 0);
    due("15 ticks again", x.tick(1), 1);
    PromiseTries y = told("a,b,c=d;", 1, 2, 4);
    due("15 decided by 2", y.decided(0, 0), 2);
    y.keeps(2);
    due("15 open again", y.verdict(0, 0), 0);
    due("15 not decided", y.decided(0, 0), -4);
    due("15 another end", y.tick(12), 0);
    due("15 passed by it", y.verdict(0, 0), 1);
  }

  private static void promise16Draw() {
    for (int seed : new int[] {0, 1, 9, -1, LOW, HIGH, 123456789}) {
      PromiseTries x = new PromiseTries();
      due("16 two", x.draw(seed, 2), 2);
      due("16 twenty", x.draw(seed, 20), 22);
      long s = seed;
      for (int t = 0; t < 20; t++) {
        s = s * 1103515245L + 12345L;
        int one = (int) (s >> 16 & 0x7FFF) % 256;
        s = s * 1103515245L + 12345L;
        int both = one & (int) (s >> 16 & 0x7FFF) % 256;
        due("16 seed " + seed + " tick " + t, x.bits(2 + t), both);
        if (t < 2) due("16 seed " + seed + " anew", x.bits(t), both);
      }
      for (int n : new int[] {0, -1, 21, LOW, HIGH}) due("16 n " + n, x.draw(seed, n), -1);
      due("16 to 42", x.draw(seed, 20), 42);
      due("16 full", x.draw(seed, 7), -3);
      due("16 full changes nothing", x.rule(1), 42);
      due("16 bad ahead of full", x.draw(seed, 21), -1);
      due("16 to 48", x.draw(seed, 6), 48);
      due("16 none more", x.draw(seed, 1), -3);
    }
    PromiseTries one = new PromiseTries();
    one.draw(0, 1);
    // 12345: 0 of it are got; then 12345 * 1103515245 + 12345.
    due("16 by hand", one.bits(0), 0);
  }

  private static void promise17Verdict() {
    PromiseTries x = told("a,b*0 1=a,c*1 2~h;", 1);
    due("17 open", x.verdict(0, 0), 0);
    x.tick(4);
    due("17 passed", x.verdict(0, 0), 1);
    due("17 empty", x.verdict(0, 1), 3);
    x.tick(1);
    x.tick(0);
    due("17 failed", x.verdict(0, 2), 2);
    x.tick(1);
    x.tick(128);
    due("17 off", x.verdict(0, 4), 4);
    due("17 off by its own tick", x.verdict(0, 5), 4);
    due("17 what was decided stays", x.verdict(0, 2), 2);
    due("17 passed stays", x.verdict(0, 0), 1);
    x.tick(129);
    due("17 OFF ahead of all else", x.verdict(0, 6), 4);
    for (int t : new int[] {-1, 7, 48, LOW, HIGH}) due("17 t " + t, x.verdict(0, t), -1);
    for (int p : new int[] {-1, 1, 4, LOW, HIGH}) due("17 p " + p, x.verdict(p, 0), -1);
    PromiseTries y = told("(a&!a)=b;a,(a&!a)=b;(a|!a)>(a&!a);", 1);
    due("17 IF that can never be", y.verdict(0, 0), 3);
    due("17 IF that can never end", y.verdict(1, 0), 3);
    due("17 THEN that can never be", y.verdict(2, 0), 2);
    PromiseTries z = told("a*1 2=c,c;", 5, 5);
    due("17 a second duty is open", z.verdict(0, 0), 0);
    z.tick(4);
    due("17 both met", z.verdict(0, 0), 1);
    due("17 by the last", z.decided(0, 0), 2);
    PromiseTries w = told("a,a*0 1>(a&!a)/c;", 1, 0);
    due("17 one broken by tick 1", w.verdict(0, 0), 2);
  }

  private static void promise18Decided() {
    PromiseTries x = told("a,b*1 2=c~h;", 1, 6, 0, 1, 2, 1, 6, 128, 1);
    due("18 passed when no more b can come", x.decided(0, 0), 2);
    due("18 is passed", x.verdict(0, 0), 1);
    due("18 empty by its own tick", x.decided(0, 1), 1);
    due("18 failed", x.decided(0, 3), 4);
    due("18 off, as a second b might have come", x.decided(0, 5), 7);
    due("18 is off", x.verdict(0, 5), 4);
    due("18 open", x.decided(0, 8), -4);
    for (int t : new int[] {-1, 9, LOW, HIGH}) due("18 t " + t, x.decided(0, t), -1);
    for (int p : new int[] {-1, 1, LOW, HIGH}) due("18 p " + p, x.decided(p, 0), -1);
    PromiseTries y = told("a=b*3 3;a>b,(c&!c);a>(c&!c);", 1);
    due("18 nothing to come can change it", y.decided(0, 0), 0);
    due("18 known ahead", y.decided(1, 0), 0);
    due("18 known ahead too", y.decided(2, 0), 0);
    y.tick(1);
    due("18 stays", y.decided(0, 0), 0);
  }

  private static void promise19Duties() {
    PromiseTries x = told("a*1 3=b;", 1, 1, 1, 1);
    due("19 failed by the first", x.decided(0, 0), 0);
    due("19 all three", x.duties(0, 0), 3);
    due("19 two so far", x.duties(0, 2), 2);
    due("19 one", x.duties(0, 3), 1);
    x.tick(0);
    due("19 still two", x.duties(0, 2), 2);
    due("19 none", x.duties(0, 4), 0);
    PromiseTries y = told("{a/a,a}*1 2=b~a;", 1, 1, 1, 1, 1);
    due("19 off at once", y.verdict(0, 0), 4);
    due("19 behind what decided it, each tick once", y.duties(0, 0), 4);
    for (int t : new int[] {-1, 5, LOW, HIGH}) due("19 t " + t, x.duties(0, t), -1);
    for (int p : new int[] {-1, 1, LOW, HIGH}) due("19 p " + p, x.duties(p, 0), -1);
  }

  private static void promise20Duty() {
    PromiseTries x = told("a,a*0 2>b,c;", 1, 1, 3, 6, 0);
    int[][] want = {{0, 2, 1}, {1, 1, 3}, {2, 2, 4}};
    for (int i = 0; i < 3; i++)
      for (int what = 0; what < 3; what++) due("20 duty " + i + ", " + what, x.duty(0, 0, i, what), want[i][what]);
    due("20 of try 1", x.duty(0, 1, 0, 0), 1);
    due("20 of try 1, by u", x.duty(0, 1, 1, 1), 2);
    due("20 not so many", x.duty(0, 0, 3, 0), -4);
    due("20 far", x.duty(0, 0, HIGH, 2), -4);
    due("20 none at all", x.duty(0, 3, 0, 1), -4);
    due("20 what ahead of none", x.duty(0, 0, 3, 3), -1);
    for (int i : new int[] {-1, LOW}) due("20 i " + i, x.duty(0, 0, i, 0), -1);
    for (int what : new int[] {-1, 3, LOW, HIGH}) due("20 what " + what, x.duty(0, 0, 0, what), -1);
    for (int t : new int[] {-1, 5, LOW, HIGH}) due("20 t " + t, x.duty(0, t, 0, 0), -1);
    for (int p : new int[] {-1, 1, LOW, HIGH}) due("20 p " + p, x.duty(p, 0, 0, 0), -1);
    PromiseTries y = told("a>b;a=b/c,d;a>(b&!b);", 5);
    due("20 open", y.duty(0, 0, 0, 1), 0);
    due("20 open: not decided", y.duty(0, 0, 0, 2), -4);
    due("20 open HERE", y.duty(1, 0, 0, 1), 0);
    due("20 broken ahead of its begin", y.duty(2, 0, 0, 1), 2);
    due("20 by u", y.duty(2, 0, 0, 2), 0);
    PromiseTries z = told("a=b*1 3;", 3, 2, 2);
    due("20 met by the least", z.duty(0, 0, 0, 2), 0);
  }

  private static void promise21Tries() {
    PromiseTries x = told("a>b~h;c=d;", 1, 3, 0, 128, 1);
    int[] want = {1, 1, 1, 1, 1};
    for (int v = 0; v < 5; v++) due("21 tries " + v, x.tries(0, v), want[v]);
    due("21 of the other", x.tries(1, 3), 5);
    due("21 none", x.tries(1, 0), 0);
    for (int v : new int[] {-1, 5, LOW, HIGH}) due("21 v " + v, x.tries(0, v), -1);
    for (int p : new int[] {-1, 2, LOW, HIGH}) due("21 p " + p, x.tries(p, 0), -1);
  }

  private static void promise22First() {
    PromiseTries x = told("a>b~h;c=d;", 0, 1, 3, 0, 128, 1, 1);
    int[] want = {6, 1, 2, 0, 4};
    for (int v = 0; v < 5; v++) due("22 first " + v, x.first(0, v), want[v]);
    due("22 none", x.first(1, 0), -4);
    due("22 all", x.first(1, 3), 0);
    for (int v : new int[] {-1, 5, LOW, HIGH}) due("22 v " + v, x.first(0, v), -1);
    for (int p : new int[] {-1, 2, LOW, HIGH}) due("22 p " + p, x.first(p, 0), -1);
    x.keeps(0);
    due("22 no ticks", x.first(0, 3), -4);
  }

  private static void promise23Keep() {
    PromiseTries x = told("a=b;", 1, 2, 3);
    due("23 there was none", x.keep(0), 0);
    due("23 there was one", x.keep(0), 1);
    due("23 the other", x.keep(1), 0);
    for (int k : new int[] {-1, 2, LOW, HIGH}) due("23 bad " + k, x.keep(k), -1);
    x.put(0, 9);
    x.keeps(1);
    due("23 in its place", x.keep(1), 1);
    due("23 as it was", x.back(0), 3);
    due("23 its bits", x.bits(0), 1);
    due("23 the later one", x.back(1), 1);
    due("23 its bits", x.bits(0), 9);
    PromiseTries y = new PromiseTries();
    due("23 without ticks", y.keep(0), 0);
    y.tick(1);
    due("23 that is an image, too", y.back(0), 0);
  }

  private static void promise24Back() {
    PromiseTries x = told("a>b;", 1, 0);
    due("24 none", x.back(0), -2);
    for (int k : new int[] {-1, 2, LOW, HIGH}) due("24 bad " + k, x.back(k), -1);
    x.keep(1);
    x.put(1, 2);
    x.tick(1);
    due("24 met", x.verdict(0, 0), 1);
    due("24 none in 0", x.back(0), -2);
    due("24 back", x.back(1), 2);
    due("24 broken", x.verdict(0, 0), 2);
    due("24 its ticks", x.rule(1), 2);
    x.put(0, 0);
    due("24 the image stays as it is", x.back(1), 2);
    due("24 its bits", x.bits(0), 1);
    due("24 the image is there still", x.count(0), 1);
    x.text();
    due("24 gone by a text", x.back(1), -2);
  }

  private static void promise25Sheet() {
    PromiseTries x = new PromiseTries();
    for (int k = 0; k < 4; k++) due("25 sheet " + k, x.sheet(k, k % 3, 40), 1);
    due("25 none", x.sheet(0, 0, 0), 1);
    due("25 no cells", x.count(2), 0);
    due("25 size", x.sheet(0, 0, -1), -14);
    due("25 size far", x.sheet(0, 2, LOW), -14);
    due("25 above", x.sheet(0, 0, 41), -1);
    due("25 far", x.sheet(0, 0, HIGH), -1);
    due("25 refused: stays", x.count(2), 0);
    for (int k : new int[] {-1, 4, LOW, HIGH}) due("25 k " + k, x.sheet(k, 0, -1), -1);
    for (int lane : new int[] {-1, 3, LOW, HIGH}) due("25 lane " + lane, x.sheet(0, lane, -1), -1);
    x.sheet(0, 0, 2);
    x.lay(0, 1, 5);
    due("25 anew", x.sheet(0, 0, 2), 1);
    x.run(0, 0, 0, 2);
    due("25 cells 0", x.bits(1), 0);
    x.sheet(0, 1, 3);
    x.run(0, 0, 0, 1);
    due("25 another lane", x.torn(), 2);
    due("25 another length", x.count(2), 3);
  }

  private static void promise26Lay() {
    PromiseTries x = new PromiseTries();
    due("26 null", x.lay(0, 0, 1), -11);
    due("26 null ahead of index", x.lay(0, -1, 1), -11);
    for (int k : new int[] {-1, 4, LOW, HIGH}) due("26 k " + k, x.lay(k, 0, 1), -1);
    for (int lane = 0; lane < 3; lane++) {
      x.sheet(lane, lane, 3);
      due("26 first", x.lay(lane, 0, 0x12345678), 1);
      due("26 last", x.lay(lane, 2, -1), 1);
      for (int i : new int[] {-1, 3, LOW, HIGH}) due("26 index " + i, x.lay(lane, i, 1), -13);
      x.run(lane, lane, 0, 3);
      due("26 lowest bits", x.bits(3 * lane), 0x78);
      due("26 not laid", x.bits(3 * lane + 1), 0);
      due("26 below 0", x.bits(3 * lane + 2), 255);
    }
    x.sheet(3, 0, 0);
    due("26 no cells", x.lay(3, 0, 1), -13);
  }

  private static void promise27Run() {
    PromiseTries x = told("a=b;");
    x.sheet(0, 0, 5);
    for (int i = 0; i < 5; i++) x.lay(0, i, 10 + i);
    due("27 some", x.run(0, 0, 1, 3), 3);
    due("27 from f on", x.bits(0), 11);
    due("27 in order", x.bits(2), 13);
    due("27 tries of them", x.verdict(0, 0), 1);
    due("27 none", x.run(0, 0, 99, 0), 0);
    due("27 none: no fault", x.torn(), 0);
    due("27 to the end", x.run(0, 0, 3, 20), 2);
    due("27 index", x.torn(), 3);
    due("27 they came", x.rule(1), 5);
    due("27 below", x.run(0, 0, -1, 2), 0);
    due("27 below: index", x.torn(), 3);
    due("27 far", x.run(0, 0, HIGH, 2), 0);
    due("27 far: index", x.torn(), 3);
    due("27 far below", x.run(0, 0, LOW, 2), 0);
    due("27 another lane", x.run(0, 2, -1, 1), 0);
    due("27 cast ahead of index", x.torn(), 2);
    due("27 nothing", x.run(3, 2, -1, 1), 0);
    due("27 null ahead of all", x.torn(), 1);
    for (int k : new int[] {-1, 4, LOW, HIGH}) due("27 k " + k, x.run(k, 0, 0, 1), -1);
    for (int lane : new int[] {-1, 3, LOW, HIGH}) due("27 lane " + lane, x.run(0, lane, 0, 1), -1);
    for (int n : new int[] {-1, 21, LOW, HIGH}) due("27 n " + n, x.run(0, 0, 0, n), -1);
    due("27 bad changes nothing", x.rule(1), 5);
    x.draw(1, 20);
    x.draw(1, 20);
    due("27 45", x.rule(1), 45);
    due("27 till 48", x.run(0, 0, 2, 20), 3);
    due("27 both at once: there are 48", x.torn(), 0);
    due("27 48", x.rule(1), 48);
    due("27 no cell is taken", x.run(3, 0, -1, 5), 0);
    due("27 no fault then", x.torn(), 0);
    x.keeps(46);
    due("27 a fault ahead of 48", x.run(0, 0, 4, 20), 1);
    due("27 index ahead of 48", x.torn(), 3);
    due("27 47", x.rule(1), 47);
    x.sheet(1, 1, 40);
    x.lay(1, 0, 0x1FF);
    x.keeps(0);
    due("27 twenty", x.run(1, 1, 20, 20), 20);
    x.run(1, 1, 0, 1);
    due("27 lowest 8 bits", x.bits(20), 255);
  }

  private static void promise28Torn() {
    PromiseTries x = new PromiseTries();
    due("28 none", x.torn(), 0);
    x.run(0, 0, 0, 1);
    due("28 null", x.torn(), 1);
    x.run(4, 0, 0, 1);
    x.run(0, 3, 0, 1);
    x.run(0, 0, 0, 21);
    due("28 bad ones do not count", x.torn(), 1);
    x.lay(1, 0, 0);
    x.sheet(0, 1, -1);
    x.sheet(0, 1, 1);
    due("28 others do not count", x.torn(), 1);
    x.run(0, 0, 0, 1);
    due("28 cast", x.torn(), 2);
    x.run(0, 1, 1, 1);
    due("28 index", x.torn(), 3);
    x.run(0, 1, 0, 1);
    due("28 none then", x.torn(), 0);
    x.run(0, 1, 0, 2);
    due("28 index behind one", x.torn(), 3);
    x.run(1, 1, 0, 0);
    due("28 n 0", x.torn(), 0);
  }

  private static void promise29Count() {
    PromiseTries x = fed("abc");
    due("29 bytes", x.count(1), 3);
    x.keep(1);
    due("29 one image", x.count(0), 1);
    x.keep(0);
    x.keep(0);
    due("29 two images", x.count(0), 2);
    due("29 nothing", x.count(2), -4);
    x.sheet(1, 0, 9);
    due("29 nothing still", x.count(2), -4);
    x.sheet(0, 0, 9);
    due("29 cells", x.count(2), 9);
    for (int what : new int[] {-1, 3, LOW, HIGH}) due("29 bad " + what, x.count(what), -1);
    due("29 BAD", PromiseTries.BAD, -1);
    due("29 STATE", PromiseTries.STATE, -2);
    due("29 FULL", PromiseTries.FULL, -3);
    due("29 NONE", PromiseTries.NONE, -4);
  }

  public static void main(String[] args) {
    promise1New();
    promise2Feed();
    promise3End();
    promise4Text();
    promise5Fault();
    promise6Rule();
    promise7Promise();
    promise8Fulfils();
    promise9Fulfilled();
    promise10Matches();
    promise11Might();
    promise12Tick();
    promise13Bits();
    promise14Put();
    promise15Keeps();
    promise16Draw();
    promise17Verdict();
    promise18Decided();
    promise19Duties();
    promise20Duty();
    promise21Tries();
    promise22First();
    promise23Keep();
    promise24Back();
    promise25Sheet();
    promise26Lay();
    promise27Run();
    promise28Torn();
    promise29Count();
    System.out.println(asked + " answers asked, " + wrong + " not as due");
    if (wrong != 0) System.exit(1);
  }
}
