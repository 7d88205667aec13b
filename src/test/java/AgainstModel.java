import java.util.ArrayList;
import java.util.BitSet;
import java.util.HashMap;
import java.util.HashSet;
import java.util.List;
import java.util.Map;
import java.util.Random;
import java.util.Set;

/**
 * Random runs of calls, each answer held against a slow model that is written from the document's words alone:
 * what can stand is asked of the grammar itself, what matches of the tree of the text, what a try is of all n in turn.
 */
public final class AgainstModel {
  private static int wrong = 0;
  private static long calls = 0;
  // What the runs have met, so that runs that meet too little are found.
  private static final int[] faultsMet = new int[7], verdictsMet = new int[5], dutiesMet = new int[3], longMet = new int[41], ticksMet = new int[49];

  // ---------------------------------------------------------------- the text

  private static final class Token {
    final char kind;   // 'W' a wire, 'N' a number, a sign, '$' the end, '?' none
    final int value, place;
    Token(char kind, int value, int place) { this.kind = kind; this.value = value; this.place = place; }
  }

  private static final class Fault extends RuntimeException {
    final int code, place;
    private static final long serialVersionUID = 1L;
    Fault(int code, int place) { super(null, null, false, false); this.code = code; this.place = place; }
  }

  private static List<Token> scan(String s) {
    List<Token> all = new ArrayList<>();
    int i = 0;
    while (true) {
      while (i < s.length() && s.charAt(i) == ' ') i++;
      if (i == s.length()) { all.add(new Token('$', 0, i)); return all; }
      char c = s.charAt(i);
      if ("abcdefgh".indexOf(c) >= 0) all.add(new Token('W', c - 'a', i++));
      else if ("!&|(){},/*=>~;".indexOf(c) >= 0) all.add(new Token(c, 0, i++));
      else if ("0123456789".indexOf(c) >= 0) {
        int j = i;
        while (j < s.length() && "0123456789".indexOf(s.charAt(j)) >= 0) j++;
        if (j - i > 2) { all.add(new Token('?', 0, i)); return all; }
        all.add(new Token('N', Integer.parseInt(s.substring(i, j)), i));
        i = j;
      } else { all.add(new Token('?', 0, i)); return all; }
    }
  }

  // The grammar as rules without options; upper letters of NAMES are parts, all else is a token.
  private static final String NAMES = "ZPKOSCcRrTEXxYyf";
  private static final String[] RULES = {
    "Z:", "Z:PZ", "P:SKSO;", "K:=", "K:>", "O:", "O:~X", "S:Cc", "c:", "c:/Cc", "C:Rr", "r:", "r:,Rr",
    "R:T", "R:T*NN", "T:E", "T:{S}", "E:W", "E:!E", "E:(X)", "X:Yx", "x:", "x:|Yx", "Y:Ey", "y:", "y:&Ey"
  };

  private static boolean isName(char c) { return NAMES.indexOf(c) >= 0; }

  /** Earley's sets: which rules stand where, after the tokens so far. */
  private static final class Standing {
    final List<List<int[]>> sets = new ArrayList<>();
    final List<Set<Integer>> seen = new ArrayList<>();

    Standing() {
      open();
      for (int r = 0; r < RULES.length; r++) if (RULES[r].charAt(0) == 'Z') put(0, r, 2, 0);
      close(0);
    }

    void open() { sets.add(new ArrayList<>()); seen.add(new HashSet<>()); }

    void put(int set, int rule, int dot, int from) {
      if (seen.get(set).add((rule * 16 + dot) * 1024 + from)) sets.get(set).add(new int[] {rule, dot, from});
    }

    void close(int at) {
      boolean grown = true;
      while (grown) {
        int before = sets.get(at).size();
        for (int i = 0; i < sets.get(at).size(); i++) {
          int[] item = sets.get(at).get(i);
          String rule = RULES[item[0]];
          if (item[1] == rule.length()) {
            List<int[]> back = sets.get(item[2]);
            for (int k = 0; k < back.size(); k++) {
              int[] b = back.get(k);
              String up = RULES[b[0]];
              if (b[1] < up.length() && up.charAt(b[1]) == rule.charAt(0)) put(at, b[0], b[1] + 1, b[2]);
            }
          } else if (isName(rule.charAt(item[1]))) {
            for (int r = 0; r < RULES.length; r++)
              if (RULES[r].charAt(0) == rule.charAt(item[1])) put(at, r, 2, at);
          }
        }
        grown = sets.get(at).size() > before;
      }
    }

    boolean take(char token) {
      int at = sets.size() - 1;
      open();
      for (int[] item : sets.get(at)) {
        String rule = RULES[item[0]];
        if (item[1] < rule.length() && rule.charAt(item[1]) == token) put(at + 1, item[0], item[1] + 1, item[2]);
      }
      close(at + 1);
      return !sets.get(at + 1).isEmpty();
    }

    boolean mayEnd() {
      for (int[] item : sets.get(sets.size() - 1))
        if (RULES[item[0]].charAt(0) == 'Z' && item[1] == RULES[item[0]].length() && item[2] == 0) return true;
      return false;
    }
  }

  /** A part of a sequence or of a condition. */
  private static final class Node {
    final char kind;   // sequences: C condition, T then, O or, B by; conditions: W ! & |
    final Node left, right;
    final int m, n;
    Boolean can;
    Node(char kind, Node left, Node right, int m, int n) {
      this.kind = kind; this.left = left; this.right = right; this.m = m; this.n = n;
    }

    boolean holds(int bits) {
      switch (kind) {
        case 'W': return (bits >> m & 1) == 1;
        case '!': return !left.holds(bits);
        case '&': return left.holds(bits) && right.holds(bits);
        default: return left.holds(bits) || right.holds(bits);
      }
    }

    int fulfilled() {
      int sum = 0;
      for (int b = 0; b < 256; b++) if (holds(b)) sum++;
      return sum;
    }

    boolean canHold() {
      if (can == null) can = fulfilled() > 0;
      return can;
    }

    long size() {
      switch (kind) {
        case 'C': return 1;
        case 'B': return n * left.size();
        default: return left.size() + right.size();
      }
    }

    long least() {
      switch (kind) {
        case 'C': return 1;
        case 'B': return m * left.least();
        case 'T': return left.least() + right.least();
        default: return Math.min(left.least(), right.least());
      }
    }

    long greatest() {
      switch (kind) {
        case 'C': return 1;
        case 'B': return n * left.greatest();
        case 'T': return left.greatest() + right.greatest();
        default: return Math.max(left.greatest(), right.greatest());
      }
    }
  }

  private static final class Told {
    Node[] side = new Node[2];
    List<List<Node>> conditions = new ArrayList<>();
    int kind;
    Node off;
  }

  /** Makes the tree of a promise that is known to be one. */
  private static final class Trees {
    final List<Token> tokens;
    int at;
    List<Node> conditions;
    Trees(List<Token> tokens, int at) { this.tokens = tokens; this.at = at; }

    boolean next(char kind) {
      if (tokens.get(at).kind != kind) return false;
      at++;
      return true;
    }

    Told promise() {
      Told told = new Told();
      told.side[0] = side(told);
      told.kind = next('=') ? 0 : 1;
      if (told.kind == 1) at++;
      told.side[1] = side(told);
      if (next('~')) told.off = or();
      at++;
      return told;
    }

    Node side(Told told) {
      conditions = new ArrayList<>();
      told.conditions.add(conditions);
      return choice();
    }

    Node choice() {
      Node left = chain();
      return next('/') ? new Node('O', left, choice(), 0, 0) : left;
    }

    Node chain() {
      Node left = times();
      return next(',') ? new Node('T', left, chain(), 0, 0) : left;
    }

    Node times() {
      Node part;
      if (next('{')) { part = choice(); at++; }
      else {
        int place = conditions.size();
        conditions.add(null);
        Node e = single();
        conditions.set(place, e);
        part = new Node('C', e, null, 0, 0);
      }
      if (!next('*')) return part;
      at += 2;
      return new Node('B', part, null, tokens.get(at - 2).value, tokens.get(at - 1).value);
    }

    Node single() {
      if (next('!')) return new Node('!', single(), null, 0, 0);
      if (next('(')) { Node x = or(); at++; return x; }
      return new Node('W', null, null, tokens.get(at++).value, 0);
    }

    Node or() {
      Node left = and();
      return next('|') ? new Node('|', left, or(), 0, 0) : left;
    }

    Node and() {
      Node left = single();
      return next('&') ? new Node('&', left, and(), 0, 0) : left;
    }
  }

  private static List<Told> tellAll(String s) {
    List<Token> tokens = scan(s);
    List<Told> told = new ArrayList<>();
    Standing standing = new Standing();
    int begin = 0, nested = 0;
    for (int i = 0; i < tokens.size(); i++) {
      Token t = tokens.get(i);
      if (t.kind == '?') throw new Fault(1, t.place);
      if (t.kind == '$') {
        if (!standing.mayEnd()) throw new Fault(2, t.place);
        return told;
      }
      if (!standing.take(t.kind)) throw new Fault(2, t.place);
      if (t.kind == 'N') {
        boolean second = tokens.get(i - 1).kind == 'N';
        int least = second ? Math.max(1, tokens.get(i - 1).value) : 0;
        if (t.value < least || t.value > 9) throw new Fault(3, t.place);
      }
      if (i == begin && told.size() == 4) throw new Fault(4, t.place);
      if (t.kind == '(' || t.kind == '{') {
        if (nested == 8) throw new Fault(4, t.place);
        nested++;
      }
      if (t.kind == ')' || t.kind == '}') nested--;
      if (t.kind == ';') {
        Told p = new Trees(tokens, begin).promise();
        if (p.side[0].least() == 0 || p.side[1].least() == 0) throw new Fault(5, t.place);
        if (p.side[0].size() > 40 || p.side[1].size() > 40) throw new Fault(6, t.place);
        told.add(p);
        begin = i + 1;
      }
    }
    throw new IllegalStateException("a text without an end");
  }

  // ---------------------------------------------------------------- the model

  private static final class Model {
    final StringBuilder tape = new StringBuilder();
    List<Told> told = new ArrayList<>();
    int fault = 0, torn = 0;
    List<Integer> trace = new ArrayList<>();
    final List<List<Integer>> images = new ArrayList<>();
    final Object[] sheets = new Object[4];
    int version = 0;
    final Map<String, Object> known = new HashMap<>();
    final Map<String, BitSet> endsKnown = new HashMap<>();

    Model() { images.add(null); images.add(null); }

    void changed() { known.clear(); endsKnown.clear(); }

    boolean isP(int p) { return p >= 0 && p < told.size(); }
    boolean isT(int t) { return t >= 0 && t < trace.size(); }

    int feed(int c) {
      if (c < 0 || c > 127) return -1;
      if (tape.length() == 200) return -3;
      tape.append((char) c);
      return tape.length();
    }

    int end(int n) {
      int had = tape.length();
      if (n < 0 || n > had) return -1;
      tape.setLength(n);
      return had;
    }

    int text() {
      String s = tape.toString();
      tape.setLength(0);
      try {
        told = tellAll(s);
      } catch (Fault f) {
        fault = f.code;
        return -10 - f.place;
      }
      fault = 0;
      images.set(0, null);
      images.set(1, null);
      changed();
      return told.size();
    }

    /** The ends (one behind the last tick) of what a part matches from a tick on; ticks n and later may be any. */
    BitSet ends(Node part, int from, int n) {
      BitSet out = new BitSet();
      switch (part.kind) {
        case 'C':
          if (from < n ? part.left.holds(trace.get(from)) : part.left.canHold()) out.set(from + 1);
          return out;
        case 'O':
          out.or(ends(part.left, from, n));
          out.or(ends(part.right, from, n));
          return out;
        case 'T': {
          BitSet mid = ends(part.left, from, n);
          for (int i = mid.nextSetBit(0); i >= 0; i = mid.nextSetBit(i + 1)) out.or(ends(part.right, i, n));
          return out;
        }
        default: {
          BitSet now = new BitSet();
          now.set(from);
          for (int k = 0; k <= part.n; k++) {
            if (k >= part.m) out.or(now);
            BitSet then = new BitSet();
            for (int i = now.nextSetBit(0); i >= 0; i = now.nextSetBit(i + 1)) then.or(ends(part.left, i, n));
            now = then;
          }
          return out;
        }
      }
    }

    BitSet endsOf(int p, int side, int from, int n) {
      return endsKnown.computeIfAbsent(p + "." + side + "." + from + "." + n,
          k -> ends(told.get(p).side[side], from, n));
    }

    int dutyBy(int p, int u, int n) {
      BitSet e = endsOf(p, 1, u + told.get(p).kind, n);
      int least = e.nextSetBit(0);
      if (least >= 0 && least <= n) return 1;
      return least < 0 ? 2 : 0;
    }

    int tryBy(int p, int t, int n) {
      String key = "v" + p + "." + t + "." + n;
      Object is = known.get(key);
      if (is == null) { is = findTryBy(p, t, n); known.put(key, is); }
      return (Integer) is;
    }

    int findTryBy(int p, int t, int n) {
      if (n - 1 > t) {
        int before = tryBy(p, t, n - 1);
        if (before != 0) return before;
      }
      Told q = told.get(p);
      if (q.off != null && q.off.holds(trace.get(n - 1))) return 4;
      BitSet e = endsOf(p, 0, t, n);
      boolean open = e.nextSetBit(n + 1) >= 0, any = false;
      for (int u = t; u < n; u++) {
        if (!e.get(u + 1)) continue;
        any = true;
        int d = dutyBy(p, u, n);
        if (d == 2) return 2;
        if (d == 0) open = true;
      }
      return open ? 0 : any ? 1 : 3;
    }

    int verdict(int p, int t) { return isP(p) && isT(t) ? tryBy(p, t, trace.size()) : -1; }

    int decided(int p, int t) {
      if (!isP(p) || !isT(t)) return -1;
      int now = tryBy(p, t, trace.size());
      if (now == 0) return -4;
      int n = t + 1;
      while (tryBy(p, t, n) != now) n++;
      return n - 1;
    }

    List<Integer> dutiesOf(int p, int t) {
      List<Integer> all = new ArrayList<>();
      BitSet e = endsOf(p, 0, t, trace.size());
      for (int u = t; u < trace.size(); u++) if (e.get(u + 1)) all.add(u);
      return all;
    }

    int duties(int p, int t) { return isP(p) && isT(t) ? dutiesOf(p, t).size() : -1; }

    int duty(int p, int t, int i, int what) {
      if (!isP(p) || !isT(t) || i < 0 || what < 0 || what > 2) return -1;
      List<Integer> all = dutiesOf(p, t);
      if (i >= all.size()) return -4;
      int u = all.get(i);
      if (what == 0) return u;
      int now = dutyBy(p, u, trace.size());
      if (what == 1) return now;
      if (now == 0) return -4;
      int n = u + 1;
      while (dutyBy(p, u, n) != now) n++;
      return n - 1;
    }

    int tries(int p, int v) {
      if (!isP(p) || v < 0 || v > 4) return -1;
      int sum = 0;
      for (int t = 0; t < trace.size(); t++) if (verdict(p, t) == v) sum++;
      return sum;
    }

    int first(int p, int v) {
      if (!isP(p) || v < 0 || v > 4) return -1;
      for (int t = 0; t < trace.size(); t++) if (verdict(p, t) == v) return t;
      return -4;
    }

    int rule(int what) {
      if (what < 0 || what > 7) return -1;
      if (what == 0) return told.size();
      if (what == 1) return trace.size();
      int sum = 0;
      for (int p = 0; p < told.size(); p++)
        for (int t = 0; t < trace.size(); t++)
          sum += what == 7 ? duties(p, t) : verdict(p, t) == what - 2 ? 1 : 0;
      return sum;
    }

    int promise(int p, int what) {
      if (!isP(p) || what < 0 || what > 9) return -1;
      Told q = told.get(p);
      Node side = q.side[what % 2];
      switch (what) {
        case 0: return q.kind;
        case 1: return q.off == null ? 0 : 1;
        case 2: case 3: return q.conditions.get(what % 2).size();
        case 4: case 5: return (int) side.size();
        case 6: case 7: return (int) side.least();
        default: return (int) side.greatest();
      }
    }

    Node condition(int p, int side, int e) {
      if (!isP(p) || side < 0 || side > 2) return null;
      Told q = told.get(p);
      if (side == 2) return q.off;
      return e >= 0 && e < q.conditions.get(side).size() ? q.conditions.get(side).get(e) : null;
    }

    int fulfils(int p, int side, int e, int bits) {
      Node c = condition(p, side, e);
      if (c == null || bits < 0 || bits > 255) return -1;
      return c.holds(bits) ? 1 : 0;
    }

    int fulfilled(int p, int side, int e) {
      Node c = condition(p, side, e);
      return c == null ? -1 : c.fulfilled();
    }

    int matches(int p, int side, int i, int j) {
      if (!isP(p) || side < 0 || side > 1 || i < 0 || i > trace.size() || j < i - 1) return -1;
      if (j != i - 1 && !isT(j)) return -1;
      return endsOf(p, side, i, trace.size()).get(j + 1) ? 1 : 0;
    }

    int might(int p, int side, int i) {
      if (!isP(p) || side < 0 || side > 1 || i < 0 || i > trace.size()) return -1;
      return endsOf(p, side, i, trace.size()).nextSetBit(trace.size() + 1) >= 0 ? 1 : 0;
    }

    int tick(int bits) {
      if (bits < 0 || bits > 255) return -1;
      if (trace.size() == 48) return -3;
      trace.add(bits);
      changed();
      int sum = 0, last = trace.size() - 1;
      for (int p = 0; p < told.size(); p++)
        for (int t = 0; t <= last; t++)
          if (tryBy(p, t, last + 1) == 2 && (t == last || tryBy(p, t, last) != 2)) sum++;
      return sum;
    }

    int bits(int t) { return isT(t) ? trace.get(t) : -1; }

    int put(int t, int bits) {
      if (!isT(t) || bits < 0 || bits > 255) return -1;
      changed();
      return trace.set(t, bits);
    }

    int keeps(int n) {
      int had = trace.size();
      if (n < 0 || n > had) return -1;
      trace = new ArrayList<>(trace.subList(0, n));
      changed();
      return had;
    }

    int draw(int seed, int n) {
      if (n < 1 || n > 20) return -1;
      if (trace.size() + n > 48) return -3;
      long s = seed;
      for (int i = 0; i < n; i++) {
        int both = 255;
        for (int k = 0; k < 2; k++) {
          s = (s * 1103515245L + 12345L) & 0xFFFFFFFFL;
          both &= (int) (s / 65536 % 32768 % 256);
        }
        trace.add(both);
      }
      changed();
      return trace.size();
    }

    int keep(int k) {
      if (k < 0 || k > 1) return -1;
      return images.set(k, new ArrayList<>(trace)) == null ? 0 : 1;
    }

    int back(int k) {
      if (k < 0 || k > 1) return -1;
      if (images.get(k) == null) return -2;
      trace = new ArrayList<>(images.get(k));
      changed();
      return trace.size();
    }

    // Real rows of the machine, whose faults it finds itself.
    int sheet(int k, int lane, int n) {
      if (k < 0 || k > 3 || lane < 0 || lane > 2 || n > 40) return -1;
      try {
        sheets[k] = lane == 0 ? new byte[n] : lane == 1 ? new char[n] : (Object) new int[n];
        return 1;
      } catch (NegativeArraySizeException e) {
        return -14;
      }
    }

    int lay(int k, int i, int v) {
      if (k < 0 || k > 3) return -1;
      Object row = sheets[k];
      try {
        if (row == null) throw new NullPointerException();
        if (row instanceof byte[]) ((byte[]) row)[i] = (byte) v;
        else if (row instanceof char[]) ((char[]) row)[i] = (char) v;
        else ((int[]) row)[i] = v;
        return 1;
      } catch (NullPointerException e) {
        return -11;
      } catch (ArrayIndexOutOfBoundsException e) {
        return -13;
      }
    }

    int run(int k, int lane, int f, int n) {
      if (k < 0 || k > 3 || lane < 0 || lane > 2 || n < 0 || n > 20) return -1;
      torn = 0;
      int came = 0;
      Object row = sheets[k];
      try {
        while (came < n && trace.size() < 48) {
          if (row == null) throw new NullPointerException();
          int cell = lane == 0 ? ((byte[]) row)[f + came] : lane == 1 ? ((char[]) row)[f + came] : ((int[]) row)[f + came];
          trace.add(cell & 255);
          came++;
        }
      } catch (NullPointerException e) {
        torn = 1;
      } catch (ClassCastException e) {
        torn = 2;
      } catch (ArrayIndexOutOfBoundsException e) {
        torn = 3;
      }
      changed();
      return came;
    }

    int count(int what) {
      switch (what) {
        case 0: return (images.get(0) == null ? 0 : 1) + (images.get(1) == null ? 0 : 1);
        case 1: return tape.length();
        case 2: return sheets[0] == null ? -4 : java.lang.reflect.Array.getLength(sheets[0]);
        default: return -1;
      }
    }
  }

  // ---------------------------------------------------------------- texts by chance

  private static final class Texts {
    final Random random;
    final StringBuilder s = new StringBuilder();
    int wires, room;
    Texts(Random random) { this.random = random; }

    boolean chance(int percent) { return random.nextInt(100) < percent; }

    void blank() { if (chance(4)) s.append(' '); }

    String make(int promises) {
      s.setLength(0);
      wires = 1 + random.nextInt(chance(70) ? 3 : 8);
      for (int p = 0; p < promises; p++) {
        choice(chance(80) ? 2 : 4, 0);
        s.append(chance(50) ? '=' : '>');
        choice(chance(80) ? 2 : 4, 0);
        if (chance(25)) { s.append('~'); or(2, 0); }
        s.append(';');
        blank();
      }
      return s.toString();
    }

    void choice(int more, int nested) { chain(more, nested); while (chance(20 * more / 2)) { s.append('/'); chain(more - 1, nested); } }

    void chain(int more, int nested) { times(more, nested); while (chance(30)) { s.append(','); times(more - 1, nested); } }

    void times(int more, int nested) {
      blank();
      if (more > 0 && nested < 8 && chance(25)) { s.append('{'); choice(more - 1, nested + 1); s.append('}'); }
      else single(more, nested);
      if (chance(20)) {
        int m = random.nextInt(chance(80) ? 3 : 10), n = Math.min(9, Math.max(1, m + random.nextInt(3)));
        s.append('*');
        if (chance(5)) s.append('0');
        s.append(m).append(' ').append(n);
      }
    }

    void single(int more, int nested) {
      blank();
      while (chance(15)) s.append('!');
      if (more > 0 && nested < 8 && chance(25)) { s.append('('); or(more - 1, nested + 1); s.append(')'); }
      else s.append((char) ('a' + random.nextInt(wires)));
    }

    void or(int more, int nested) { and(more, nested); while (chance(25)) { s.append('|'); and(more, nested); } }

    void and(int more, int nested) { single(more, nested); while (chance(25)) { s.append('&'); single(more, nested); } }

    /** A text with a place that is not as it was. */
    String spoil(String text) {
      StringBuilder t = new StringBuilder(text);
      int times = 1 + random.nextInt(2);
      String signs = "abh!&|(){},/*=>~; 0123456789i@\t\0" + (char) 127;
      for (int k = 0; k < times; k++) {
        int at = random.nextInt(t.length() + 1);
        char c = signs.charAt(random.nextInt(signs.length()));
        switch (random.nextInt(4)) {
          case 0: t.insert(at, c); break;
          case 1: if (at < t.length()) t.deleteCharAt(at); break;
          case 2: if (at < t.length()) t.setCharAt(at, c); break;
          default: t.setLength(Math.max(at, 1)); break;
        }
        if (t.length() == 0) t.append(';');
      }
      return t.toString();
    }
  }

  // ---------------------------------------------------------------- runs by chance

  private static void due(String run, String call, int got, int want) {
    calls++;
    if (got != want) {
      wrong++;
      if (wrong < 30) System.out.println(run + ": " + call + " answered " + got + ", due is " + want);
    }
  }

  private static void tell(PromiseTries x, Model m, String text, String run) {
    for (int i = 0; i < text.length(); i++) {
      int c = text.charAt(i);
      due(run, "feed(" + c + ")", x.feed(c), m.feed(c));
    }
    due(run, "text() of [" + text + "]", x.text(), m.text());
    due(run, "fault() of [" + text + "]", x.fault(), m.fault);
    faultsMet[m.fault]++;
  }

  private static int around(Random r, int low, int high) {
    if (r.nextInt(60) == 0) return r.nextBoolean() ? Integer.MIN_VALUE : Integer.MAX_VALUE;
    if (r.nextInt(12) == 0) return r.nextBoolean() ? low - 1 : high + 1;
    return high < low ? low : low + r.nextInt(high - low + 1);
  }

  private static int bitsBy(Random r, int wires) {
    if (r.nextInt(10) == 0) return around(r, 0, 255);
    return r.nextInt(1 << wires);
  }

  private static void oneCall(PromiseTries x, Model m, Random r, int wires, String run) {
    int p = around(r, 0, m.told.size() - 1), t = around(r, 0, m.trace.size() - 1);
    int side = around(r, 0, 1), k, i, j, v, n, what;
    switch (r.nextInt(34)) {
      case 0: what = around(r, 0, 7); due(run, "rule(" + what + ")", x.rule(what), m.rule(what)); break;
      case 1: what = around(r, 0, 9); due(run, "promise(" + p + ", " + what + ")", x.promise(p, what), m.promise(p, what)); break;
      case 2: side = around(r, 0, 2); i = around(r, 0, 3); v = around(r, 0, 255);
        due(run, "fulfils(" + p + ", " + side + ", " + i + ", " + v + ")", x.fulfils(p, side, i, v), m.fulfils(p, side, i, v)); break;
      case 3: side = around(r, 0, 2); i = around(r, 0, 3);
        due(run, "fulfilled(" + p + ", " + side + ", " + i + ")", x.fulfilled(p, side, i), m.fulfilled(p, side, i)); break;
      case 4: case 5: i = around(r, 0, m.trace.size()); j = around(r, i - 1, Math.min(i + 6, m.trace.size() - 1));
        due(run, "matches(" + p + ", " + side + ", " + i + ", " + j + ")", x.matches(p, side, i, j), m.matches(p, side, i, j)); break;
      case 6: i = r.nextBoolean() ? around(r, 0, m.trace.size()) : Math.max(0, m.trace.size() - r.nextInt(6));
        due(run, "might(" + p + ", " + side + ", " + i + ")", x.might(p, side, i), m.might(p, side, i)); break;
      case 7: case 8: case 9: case 10: case 11: case 12: v = bitsBy(r, wires); due(run, "tick(" + v + ")", x.tick(v), m.tick(v)); break;
      case 13: due(run, "bits(" + t + ")", x.bits(t), m.bits(t)); break;
      case 14: v = bitsBy(r, wires); due(run, "put(" + t + ", " + v + ")", x.put(t, v), m.put(t, v)); break;
      case 15: n = r.nextInt(4) == 0 ? around(r, 0, m.trace.size()) : Math.max(0, m.trace.size() - r.nextInt(3));
        due(run, "keeps(" + n + ")", x.keeps(n), m.keeps(n)); break;
      case 16: v = r.nextInt(); n = r.nextInt(3) == 0 ? around(r, 1, 20) : 1 + r.nextInt(3);
        due(run, "draw(" + v + ", " + n + ")", x.draw(v, n), m.draw(v, n)); break;
      case 17: case 18: case 19: due(run, "verdict(" + p + ", " + t + ")", x.verdict(p, t), m.verdict(p, t)); break;
      case 20: case 21: case 22: due(run, "decided(" + p + ", " + t + ")", x.decided(p, t), m.decided(p, t)); break;
      case 23: due(run, "duties(" + p + ", " + t + ")", x.duties(p, t), m.duties(p, t)); break;
      case 24: case 25: i = around(r, 0, 2); what = around(r, 0, 2);
        due(run, "duty(" + p + ", " + t + ", " + i + ", " + what + ")", x.duty(p, t, i, what), m.duty(p, t, i, what)); break;
      case 26: v = around(r, 0, 4); due(run, "tries(" + p + ", " + v + ")", x.tries(p, v), m.tries(p, v)); break;
      case 27: v = around(r, 0, 4); due(run, "first(" + p + ", " + v + ")", x.first(p, v), m.first(p, v)); break;
      case 28: k = around(r, 0, 1); due(run, "keep(" + k + ")", x.keep(k), m.keep(k)); break;
      case 29: k = around(r, 0, 1); due(run, "back(" + k + ")", x.back(k), m.back(k)); break;
      case 30: k = around(r, 0, 3); v = around(r, 0, 2); n = around(r, 0, 40);
        due(run, "sheet(" + k + ", " + v + ", " + n + ")", x.sheet(k, v, n), m.sheet(k, v, n)); break;
      case 31: k = around(r, 0, 3); i = around(r, 0, 39); v = r.nextInt();
        due(run, "lay(" + k + ", " + i + ", " + v + ")", x.lay(k, i, v), m.lay(k, i, v)); break;
      case 32: k = around(r, 0, 3); v = around(r, 0, 2); i = around(r, 0, 39); n = r.nextInt(3) == 0 ? around(r, 0, 20) : r.nextInt(4);
        due(run, "run(" + k + ", " + v + ", " + i + ", " + n + ")", x.run(k, v, i, n), m.run(k, v, i, n));
        due(run, "torn()", x.torn(), m.torn); break;
      default: what = around(r, 0, 2); due(run, "count(" + what + ")", x.count(what), m.count(what));
        due(run, "torn()", x.torn(), m.torn);
        due(run, "fault()", x.fault(), m.fault); break;
    }
  }

  private static void askAll(PromiseTries x, Model m, String run) {
    for (int w = 0; w < 8; w++) due(run, "rule(" + w + ")", x.rule(w), m.rule(w));
    for (int p = 0; p < m.told.size(); p++) {
      for (int w = 0; w < 10; w++) due(run, "promise(" + p + ", " + w + ")", x.promise(p, w), m.promise(p, w));
      longMet[m.promise(p, 4)]++;
      longMet[m.promise(p, 5)]++;
      for (int t = 0; t < m.trace.size(); t++) {
        verdictsMet[m.verdict(p, t)]++;
        due(run, "verdict(" + p + ", " + t + ")", x.verdict(p, t), m.verdict(p, t));
        due(run, "decided(" + p + ", " + t + ")", x.decided(p, t), m.decided(p, t));
        due(run, "duties(" + p + ", " + t + ")", x.duties(p, t), m.duties(p, t));
        for (int i = 0; i < m.duties(p, t); i++) dutiesMet[m.duty(p, t, i, 1)]++;
        for (int i = 0; i <= m.duties(p, t); i++)
          for (int w = 0; w < 3; w++)
            due(run, "duty(" + p + ", " + t + ", " + i + ", " + w + ")", x.duty(p, t, i, w), m.duty(p, t, i, w));
      }
    }
  }

  private static void someRun(int seed) {
    Random r = new Random(seed);
    Texts texts = new Texts(r);
    PromiseTries x = new PromiseTries();
    Model m = new Model();
    String run = "run " + seed;
    String text = texts.make(1 + r.nextInt(3));
    if (text.length() > 200) text = text.substring(0, 200);
    tell(x, m, text, run);
    // Some runs begin with so many ticks that they come up to the most that there may be.
    int many = r.nextInt(6) == 0 ? 38 + r.nextInt(11) : 0;
    for (int i = 0; i < many; i++) {
      int bits = r.nextInt(1 << texts.wires);
      due(run, "tick(" + bits + ")", x.tick(bits), m.tick(bits));
    }
    int n = 20 + r.nextInt(120);
    for (int i = 0; i < n; i++) oneCall(x, m, r, texts.wires, run);
    askAll(x, m, run);
    ticksMet[m.trace.size()]++;
    if (r.nextInt(2) == 0) {
      String second = texts.spoil(texts.make(1));
      tell(x, m, second.length() > 200 ? second.substring(0, 200) : second, run);
      for (int i = 0; i < 20; i++) oneCall(x, m, r, texts.wires, run);
      askAll(x, m, run);
    }
  }

  private static void someTexts(int seed) {
    Random r = new Random(seed);
    Texts texts = new Texts(r);
    PromiseTries x = new PromiseTries();
    Model m = new Model();
    for (int i = 0; i < 20; i++) {
      String text = texts.make(1 + r.nextInt(5));
      if (r.nextInt(5) > 0) text = texts.spoil(text);
      if (text.length() > 200) text = text.substring(0, 200);
      tell(x, m, text, "texts " + seed);
      askAll(x, m, "texts " + seed);
    }
  }

  private static void seen(String what, int[] met, int from, int least) {
    System.out.println(what + " met: " + java.util.Arrays.toString(met));
    for (int i = from; i < met.length; i++)
      if (met[i] < least) { wrong++; System.out.println("too few runs have met " + what + " " + i); }
  }

  public static void main(String[] args) {
    int times = args.length > 1 ? Integer.parseInt(args[1]) : 1;
    for (int seed = 0; seed < 1500 * times; seed++) someTexts(seed);
    System.out.println("texts: " + calls + " calls, " + wrong + " wrong");
    for (int seed = 0; seed < 2500 * times; seed++) someRun(seed);
    System.out.println("runs too: " + calls + " calls, " + wrong + " wrong");
    seen("faults", faultsMet, 0, 50);
    seen("verdicts", verdictsMet, 0, 50);
    seen("duties", dutiesMet, 0, 50);
    seen("long", longMet, 1, 5);
    seen("ticks", ticksMet, 0, 5);
    if (wrong != 0) System.exit(1);
  }
}
