import java.util.ArrayList;
import java.util.Arrays;
import java.util.List;

/**
 * The document written down a second time, with classes for KINDS, texts that are split instead of
 * read from the left, and nothing kept or cut short: slow, and unlike the program on purpose.
 */
final class Oracle {
  static final int BEYOND = Probe.BEYOND;
  static final int NONE = Probe.NONE;
  static final int STATE = Probe.STATE;
  static final int FULL = Probe.FULL;
  static final int KIND = Probe.KIND;

  /** KINDS as the document tells them; super is Java's. */
  static class Good implements Cloneable {
    int n, m, floor, speed, home;
    List<Integer> trace = new ArrayList<>();

    int load() { return m + 1; }
    int pulled(int v) { return v; }
    int drag() { return m % 2; }
    int reach() { return 40; }
    int floats(int x) { trace.add(10); return x + n; }
    int falls(int x) { trace.add(11); return floats(x) * 2; }
    int hangs(int x) { trace.add(12); return x - m; }
    int tells(int x) { trace.add(13); int a = falls(x); int b = hangs(x); return a ^ b; }
    int say(int act, int x) {
      trace = new ArrayList<>();
      return act == 0 ? floats(x) : act == 1 ? falls(x) : act == 2 ? hangs(x) : tells(x);
    }
    Good copy() {
      try {
        return (Good) clone();
      } catch (CloneNotSupportedException e) {
        throw new IllegalStateException(e);
      }
    }
    Good as(int kind) { return made(kind, this); }
  }

  static class Stone extends Good {
    int load() { return 3 * super.load(); }
    int drag() { return 0; }
    int falls(int x) { trace.add(20); int a = super.falls(x); return a - hangs(1); }
  }

  static class Roped extends Good {
    int reach() { return m + 2; }
    int hangs(int x) { trace.add(30); return -super.hangs(x); }
  }

  static class Gas extends Good {
    int load() { return 0; }
    int pulled(int v) { return 0 - v / 2; }
    int drag() { return 2; }
    int floats(int x) { trace.add(40); return super.floats(x) * 3; }
  }

  static class Prisoner extends Roped {
    int load() { return super.load() + 5; }
    int reach() { return super.reach() / 2; }
    int hangs(int x) { trace.add(50); return super.hangs(x) ^ n; }
    int tells(int x) { trace.add(51); int a = falls(x); return a - super.tells(x); }
  }

  static class Water extends Gas {
    int load() { return super.load() + m; }
    int drag() { return super.drag() - 1; }
    int tells(int x) { trace.add(60); int a = super.tells(x); return a - floats(2); }
  }

  static class Anvil extends Stone {
    int load() { return super.load() + 20; }
    int pulled(int v) { return 2 * super.pulled(v); }
    int falls(int x) { trace.add(70); return super.falls(x + 1); }
  }

  static final Class<?>[] KINDS = {Good.class, Stone.class, Roped.class, Gas.class, Prisoner.class,
    Water.class, Anvil.class};

  static int kindOf(Good g) { return Arrays.asList(KINDS).indexOf(g.getClass()); }

  static Good made(int kind, Good like) {
    Good g = kind == 0 ? new Good() : kind == 1 ? new Stone() : kind == 2 ? new Roped()
        : kind == 3 ? new Gas() : kind == 4 ? new Prisoner() : kind == 5 ? new Water() : new Anvil();
    g.n = like.n;
    g.m = like.m;
    g.floor = like.floor;
    g.speed = like.speed;
    g.home = like.home;
    return g;
  }

  /** All that an IMAGE keeps. */
  static final class World {
    List<Good> goods = new ArrayList<>();
    int step, takings, ring = 12, z = 1;
    int[] shear = {1, -1};
    String tape = "";
    String[] texts = {null, null};
    List<Integer> waiting = new ArrayList<>();

    World copy() {
      World w = new World();
      for (Good g : goods) w.goods.add(g.copy());
      w.step = step;
      w.takings = takings;
      w.ring = ring;
      w.z = z;
      w.shear = shear.clone();
      w.tape = tape;
      w.texts = texts.clone();
      w.waiting = new ArrayList<>(waiting);
      return w;
    }

    int law(int use, int... values) {
      int v;
      if (texts[use] == null) {
        v = use == 0 ? (values[0] - 20) / 5 : values[1] * (values[0] + 1);
      } else {
        v = Texts.value(texts[use], use == 0 ? "fm" : "slt", values);
      }
      int most = use == 0 ? 9 : 99;
      return v < -most ? -most : v > most ? most : v;
    }

    void quake(Good g, int q) {
      g.speed += q;
      if (g.speed > 9) g.speed = 9;
      if (g.speed < -9) g.speed = -9;
    }

    void move(Good g) {
      int pull = law(0, g.floor, g.m, 0);
      g.speed += g.pulled(pull);
      for (int i = 0; i < g.drag(); i++) g.speed -= Integer.signum(g.speed);
      quake(g, 0);
      int before = g.floor;
      g.floor += g.speed;
      boolean heldBack = false;
      while (g.floor > 40 || g.floor > g.home + g.reach()) { g.floor--; heldBack = true; }
      while (g.floor < 0 || g.floor < g.home - g.reach()) { g.floor++; heldBack = true; }
      if (heldBack) g.speed = 0;
      if (g.floor % 40 == 0 && before % 40 != 0) {
        takings += law(1, g.floor / 40, g.load(), step);
        takings = Math.max(-99999, Math.min(99999, takings));
      }
    }

    void stepOn() {
      for (Good g : goods) move(g);
      step++;
    }

    boolean rests(Good g) {
      int taken = takings;
      Good h = g.copy();
      move(h);
      takings = taken;
      return h.floor == g.floor && h.speed == g.speed;
    }

    int draw() {
      z = (int) (z * 1103515245L + 12345L);
      return (int) ((z & 0xffffffffL) / 256);
    }
  }

  /** TEXTS: worked out by splitting at the last of the loosest signs, FAULTS by a hand-driven stack. */
  static final class Texts {
    static int value(String t, String names, int[] values) {
      String[] levels = {"|", "&", "<=>", "+-", "*/%"};
      for (String level : levels) {
        int depth = 0;
        for (int i = t.length() - 1; i >= 0; i--) {
          char c = t.charAt(i);
          if (c == ')') depth++;
          if (c == '(') depth--;
          if (depth == 0 && level.indexOf(c) >= 0) {
            return join(c, value(t.substring(0, i), names, values), value(t.substring(i + 1), names, values));
          }
        }
      }
      if (t.charAt(0) == '!') return value(t.substring(1), names, values) == 0 ? 1 : 0;
      if (t.charAt(0) == '(') return value(t.substring(1, t.length() - 1), names, values);
      int name = names.indexOf(t.charAt(0));
      return name >= 0 ? values[name] : Integer.parseInt(t);
    }

    static int join(char c, int a, int b) {
      switch (c) {
        case '|': return (a != 0) | (b != 0) ? 1 : 0;
        case '&': return (a != 0) & (b != 0) ? 1 : 0;
        case '<': return a < b ? 1 : 0;
        case '=': return a == b ? 1 : 0;
        case '>': return a > b ? 1 : 0;
        case '+': return (int) ((long) a + b);
        case '-': return (int) ((long) a - b);
        case '*': return (int) ((long) a * b);
        case '/': return b == 0 ? 0 : (int) ((long) a / b);
        default: return b == 0 ? 0 : (int) ((long) a % b);
      }
    }

    /** -1 if t is a TEXT. */
    static int fault(String t, String names) {
      StringBuilder open = new StringBuilder();   // ( and ! in order
      List<Boolean> compared = new ArrayList<>(); // by open ( and the whole: whether this B has its sign
      compared.add(false);
      boolean wantsPart = true;
      int digits = 0;
      for (int i = 0; i < t.length(); i++) {
        char c = t.charAt(i);
        if (!wantsPart && digits > 0 && digits < 4 && c >= '0' && c <= '9') {
          digits++;
          continue;
        }
        digits = c >= '0' && c <= '9' ? 1 : 0;
        if (wantsPart) {
          if (c == '(' || c == '!') {
            if (open.length() == 5) return i;
            open.append(c);
            if (c == '(') compared.add(false);
            continue;
          }
          if (digits == 0 && names.indexOf(c) < 0) return i;
          wantsPart = false;
          closeNots(open);
          continue;
        }
        int top = compared.size() - 1;
        if (c == ')') {
          if (open.length() == 0) return i;
          open.setLength(open.length() - 1);
          compared.remove(top);
          closeNots(open);
        } else if ("<=>".indexOf(c) >= 0) {
          if (compared.get(top)) return i;
          compared.set(top, true);
          wantsPart = true;
        } else if ("|&".indexOf(c) >= 0) {
          compared.set(top, false);
          wantsPart = true;
        } else if ("+-*/%".indexOf(c) >= 0) {
          wantsPart = true;
        } else {
          return i;
        }
      }
      return wantsPart || open.length() > 0 ? t.length() : -1;
    }

    static void closeNots(StringBuilder open) {
      while (open.length() > 0 && open.charAt(open.length() - 1) == '!') open.setLength(open.length() - 1);
    }
  }

  static final class Row {
    final int bits;
    final int[] numbers;
    Row(int bits, int n) {
      this.bits = bits;
      numbers = new int[n];
    }
  }

  World w = new World();
  World kept = null;
  int images = 0;
  List<Integer> trace = new ArrayList<>();
  Row[] rows = new Row[4];
  boolean[] there = new boolean[4];
  int[] told = new int[6];

  int err(int e) {
    told[-1000000000 - e]++;
    return e;
  }

  boolean isGood(int g) { return g >= 0 && g < w.goods.size(); }
  static boolean in(int v, int a, int b) { return a <= v && v <= b; }

  int good(int km, int floor) {
    if (!in(km, 0, 69) || !in(floor, 0, 40)) return err(BEYOND);
    if (w.goods.size() == 8) return err(FULL);
    Good like = new Good();
    like.n = w.goods.size();
    like.m = km % 10;
    like.floor = floor;
    like.home = floor;
    w.goods.add(made(km / 10, like));
    return like.n;
  }

  int ofGood(int good, int what) {
    if (!isGood(good) || !in(what, 0, 9)) return err(BEYOND);
    Good g = w.goods.get(good);
    int[] all = {kindOf(g), g.m, g.floor, g.speed, g.home, g.load(), g.pulled(w.law(0, g.floor, g.m, 0)),
      g.drag(), g.reach(), w.rests(g) ? 1 : 0};
    return all[what];
  }

  int become(int good, int km) {
    if (!isGood(good) || !in(km, 0, 69)) return err(BEYOND);
    int was = kindOf(w.goods.get(good));
    Good g = w.goods.get(good).as(km / 10);
    g.m = km % 10;
    w.goods.set(good, g);
    return was;
  }

  int as(int good, int kind) {
    if (!isGood(good) || !in(kind, 0, 6)) return err(BEYOND);
    return KINDS[kind].isInstance(w.goods.get(good)) ? w.goods.get(good).m : err(KIND);
  }

  int place(int good, int floor) {
    if (!isGood(good) || !in(floor, 0, 40)) return err(BEYOND);
    Good g = w.goods.get(good);
    int was = g.floor;
    g.floor = floor;
    g.home = floor;
    g.speed = 0;
    return was;
  }

  int push(int good, int p) {
    if (!isGood(good) || !in(p, -9, 9)) return err(BEYOND);
    w.quake(w.goods.get(good), p);
    return w.goods.get(good).speed;
  }

  int off(int one, int other, int p) {
    if (!isGood(one) || !isGood(other) || one == other || !in(p, -9, 9)) return err(BEYOND);
    if (w.goods.get(one).floor != w.goods.get(other).floor) return err(STATE);
    w.quake(w.goods.get(one), p);
    w.quake(w.goods.get(other), 0 - p);
    return w.goods.get(one).speed;
  }

  int set(int what, int v) {
    if (!in(what, 0, 2) || (what == 0 && !in(v, 2, 24)) || (what != 0 && !in(v, -9, 9))) return err(BEYOND);
    int was = what == 0 ? w.ring : w.shear[what - 1];
    if (what == 0) w.ring = v;
    if (what > 0) w.shear[what - 1] = v;
    return was;
  }

  int at(int side, int door, int t) {
    int p = (door + w.shear[side] * t) % w.ring;
    return p < 0 ? p + w.ring : p;
  }

  int door(int side, int door) {
    return in(side, 0, 1) && in(door, 0, w.ring - 1) ? at(side, door, w.step) : err(BEYOND);
  }

  int lineUp(int i, int j) {
    if (!in(i, 0, w.ring - 1) || !in(j, 0, w.ring - 1)) return err(BEYOND);
    int k = 0;
    while (k < w.ring && at(0, i, w.step + k) != at(1, j, w.step + k)) k++;
    return k == w.ring ? err(NONE) : k;
  }

  int feed(long word, int n) {
    if (!in(n, 1, 8)) return err(BEYOND);
    if (w.tape.length() + n > 50) return err(FULL);
    for (int i = 0; i < n; i++) {
      w.tape += (char) (word & 255);
      word >>= 8;
    }
    return w.tape.length();
  }

  int text(int use) {
    if (!in(use, 0, 1)) return err(BEYOND);
    String t = w.tape;
    w.tape = "";
    int fault = Texts.fault(t, use == 0 ? "fm" : "slt");
    if (fault >= 0) return -10 - fault;
    w.texts[use] = t;
    return 1;
  }

  int law(int use, int a, int b, int c) {
    return in(use, 0, 1) ? w.law(use, a, b, c) : err(BEYOND);
  }

  int resting() {
    int many = 0;
    for (Good g : w.goods) if (w.rests(g)) many++;
    return many;
  }

  int steps(int n) {
    if (!in(n, 1, 200)) return err(BEYOND);
    if (w.step + n > 9999) return err(STATE);
    for (int i = 0; i < n; i++) w.stepOn();
    return resting();
  }

  int loose(int n) {
    if (!in(n, 1, 200)) return err(BEYOND);
    if (w.step + n > 9999) return err(STATE);
    for (int i = 0; i < n; i++) {
      for (Good g : w.goods) w.quake(g, w.draw() % 3 - 1);
      w.stepOn();
    }
    return resting();
  }

  int then(int n, int good, int what) {
    if (!in(n, 0, 200) || !isGood(good) || !in(what, 0, 2)) return err(BEYOND);
    World v = w.copy();
    for (int i = 0; i < n; i++) v.stepOn();
    return what == 0 ? v.goods.get(good).floor : what == 1 ? v.goods.get(good).speed : v.takings;
  }

  /** Steps and FLOOR; null if it never rests. */
  int[] restOf(int good) {
    World v = w.copy();
    Good g = v.goods.get(good);
    for (int k = 0; k <= 200; k++) {
      if (v.rests(g)) return new int[] {k, g.floor};
      v.move(g);
    }
    return null;
  }

  int rests(int good, int what) {
    if (!isGood(good) || !in(what, 0, 1)) return err(BEYOND);
    int[] r = restOf(good);
    return r == null ? err(NONE) : r[what];
  }

  int first() {
    int[] best = null;
    for (int i = 0; i < w.goods.size(); i++) {
      int[] r = restOf(i);
      if (r == null || !in(r[1], 16, 24)) continue;
      int[] now = {r[0], i};
      if (best == null || Arrays.compare(now, best) < 0) best = now;
    }
    return best == null ? err(NONE) : best[1];
  }

  int overOf(int good, int side, int p) {
    World v = w.copy();
    Good g = v.goods.get(good);
    v.quake(g, p);
    for (int k = 0; k <= 100; k++) {
      if (g.floor == 40 * side) return k;
      v.move(g);
    }
    return -1;
  }

  int over(int good, int side, int p) {
    if (!isGood(good) || !in(side, 0, 1) || !in(p, -9, 9)) return err(BEYOND);
    int k = overOf(good, side, p);
    return k < 0 ? err(NONE) : k;
  }

  int soonest(int good, int side, int what) {
    if (!isGood(good) || !in(side, 0, 1) || !in(what, 0, 1)) return err(BEYOND);
    int[] best = null;
    for (int p = -9; p <= 9; p++) {
      int k = overOf(good, side, p);
      if (k < 0) continue;
      int[] now = {k, Math.abs(p), p};
      if (best == null || Arrays.compare(now, best) < 0) best = now;
    }
    return best == null ? err(NONE) : what == 0 ? best[2] : best[0];
  }

  int least(int good, int side) {
    if (!isGood(good) || !in(side, 0, 1)) return err(BEYOND);
    int best = 99;
    for (int p = 9; p >= -9; p--) {
      if (overOf(good, side, p) >= 0 && Math.abs(p) <= Math.abs(best)) best = p;
    }
    return best == 99 ? err(NONE) : best;
  }

  int lifts(int what) {
    int n = w.goods.size();
    if (!in(what, -2, n - 1)) return err(BEYOND);
    List<Integer> low = new ArrayList<>();
    List<Integer> high = new ArrayList<>();
    for (int i = 0; i < n; i++) {
      if (w.goods.get(i).floor == 0) low.add(i);
      if (w.goods.get(i).floor == 40) high.add(i);
    }
    int most = Math.min(low.size(), high.size());
    // every row of numbers 0 .. high.size() (the last: none), and the least by (sum, row)
    int[] best = null;
    int ways = 1;
    for (int i = 0; i < low.size(); i++) ways *= high.size() + 1;
    for (int way = 0; way < ways; way++) {
      int[] row = new int[low.size() + 1];
      int rest = way;
      int used = 0;
      int pairs = 0;
      boolean good = true;
      for (int i = low.size(); i >= 1; i--) {
        row[i] = rest % (high.size() + 1);
        rest /= high.size() + 1;
        if (row[i] < high.size()) {
          good &= (used & 1 << row[i]) == 0;
          used |= 1 << row[i];
          pairs++;
          row[0] += Math.abs(w.goods.get(low.get(i - 1)).load() - w.goods.get(high.get(row[i])).load());
        }
      }
      if (good && pairs == most && (best == null || Arrays.compare(row, best) < 0)) best = row;
    }
    if (what == -2) return most;
    if (what == -1) return best[0];
    for (int i = 1; i <= low.size(); i++) {
      int other = best[i] < high.size() ? high.get(best[i]) : -1;
      if (low.get(i - 1) == what) return other;
      if (other == what) return low.get(i - 1);
    }
    return -1;
  }

  boolean follows(Good g, Row row) {
    World v = w.copy();
    for (int f : row.numbers) {
      v.move(g);
      if (g.floor != f) return false;
    }
    return true;
  }

  int rolled(int good, int sheet, int what) {
    if (!isGood(good) || !in(sheet, 0, 3) || !in(what, 0, 1)) return err(BEYOND);
    if (!there[sheet]) return err(NONE);
    List<Integer> all = new ArrayList<>();
    for (int v = -9; v <= 9; v++) {
      Good g = w.goods.get(good).copy();
      g.speed = v;
      if (follows(g, rows[sheet])) all.add(v);
    }
    return all.isEmpty() ? err(NONE) : what == 0 ? all.get(0) : all.size();
  }

  int whose(int good, int sheet) {
    if (!isGood(good) || !in(sheet, 0, 3)) return err(BEYOND);
    if (!there[sheet]) return err(NONE);
    for (int k = 0; k < 7; k++) if (follows(w.goods.get(good).as(k), rows[sheet])) return k;
    return err(NONE);
  }

  int landed(Good g, int side, int n, int behind) {
    World v = w.copy();
    if (behind == 50) return g.floor == 40 * side ? 1 : 0;
    int many = 0;
    for (int q = -1; q <= 1; q++) {
      if (behind >= n && q != 0) continue;
      Good h = g.copy();
      v.quake(h, q);
      v.move(h);
      many += landed(h, side, n, behind + 1);
    }
    return many;
  }

  int odds(int good, int side, int n, int part) {
    if (!isGood(good) || !in(side, 0, 1) || !in(n, 0, 5) || !in(part, 0, 1)) return err(BEYOND);
    int above = landed(w.goods.get(good), side, n, 0);
    int below = (int) Math.pow(3, n);
    int a = above;
    int b = below;
    while (b != 0) {
      int r = a % b;
      a = b;
      b = r;
    }
    return part == 0 ? above / a : below / a;
  }

  int seed(int v) {
    int was = w.z;
    w.z = v;
    return was;
  }

  int voice(int good, int act, int x) {
    if (!isGood(good) || !in(act, 0, 3)) return err(BEYOND);
    int said = w.goods.get(good).say(act, x);
    trace = w.goods.get(good).trace;
    return said;
  }

  int trace(int i) { return in(i, 0, Math.min(40, trace.size()) - 1) ? trace.get(i) : err(NONE); }

  int sheet(int sheet, int bits, int n) {
    if (!in(sheet, 0, 3) || !(bits == 0 || bits == 8 || bits == 16 || bits == 32)) return err(BEYOND);
    if (bits == 0) {
      there[sheet] = false;
      return 1;
    }
    if (n < 0) return err(STATE);
    if (n > 40) return err(BEYOND);
    rows[sheet] = new Row(bits, n);
    there[sheet] = true;
    return 1;
  }

  int put(int sheet, int i, int v) {
    if (!in(sheet, 0, 3)) return err(BEYOND);
    if (!there[sheet]) return err(NONE);
    if (!in(i, 0, rows[sheet].numbers.length - 1)) return err(BEYOND);
    int shift = 32 - rows[sheet].bits;
    rows[sheet].numbers[i] = v << shift >> shift;
    return 1;
  }

  int move(int sheet, int i, int other, int j, int n) {
    if (!in(sheet, 0, 3) || !in(other, 0, 3)) return err(BEYOND);
    if (!there[sheet] || !there[other]) return err(NONE);
    if (rows[sheet].bits != rows[other].bits) return err(KIND);
    if (n < 0 || i < 0 || j < 0) return err(BEYOND);
    if ((long) i + n > rows[sheet].numbers.length || (long) j + n > rows[other].numbers.length) return err(BEYOND);
    int[] all = Arrays.copyOfRange(rows[sheet].numbers, i, i + n);
    for (int k = 0; k < n; k++) rows[other].numbers[j + k] = all[k];
    return n;
  }

  int pushes(int sheet) {
    if (!in(sheet, 0, 3)) return err(BEYOND);
    if (!there[sheet]) return err(NONE);
    int many = 0;
    for (int p : rows[sheet].numbers) {
      if (many == w.goods.size() || !in(p, -9, 9)) break;
      w.quake(w.goods.get(many), p);
      many++;
    }
    return many;
  }

  int judge(int sheet) {
    if (!in(sheet, 0, 3)) return err(BEYOND);
    if (!there[sheet]) return err(NONE);
    int[] floors = w.goods.stream().mapToInt(g -> g.floor).toArray();
    return Arrays.mismatch(floors, rows[sheet].numbers);
  }

  int image() {
    kept = w.copy();
    images++;
    return images;
  }

  int restore() {
    if (kept == null) return err(NONE);
    w = kept.copy();
    return w.step;
  }

  int tell(int v) {
    if (w.waiting.size() == 20) return err(FULL);
    w.waiting.add(v);
    return w.waiting.size();
  }

  int check() {
    List<Integer> all = w.waiting;
    w.waiting = new ArrayList<>();
    World v = w.copy();
    for (int i = 0; i < all.size(); i++) {
      v.stepOn();
      int sum = 0;
      for (Good g : v.goods) sum += g.floor;
      if (sum != all.get(i)) return i + 1;
    }
    return 0;
  }

  int count(int what) {
    int ground0 = 0;
    int ground1 = 0;
    int middle = 0;
    for (Good g : w.goods) {
      if (g.floor == 0) ground0++;
      if (g.floor == 40) ground1++;
      if (g.floor > 15 && g.floor < 25) middle++;
    }
    int[] all = {w.goods.size(), w.step, w.takings, ground0, ground1, middle, resting(), w.tape.length(),
      w.waiting.size(), Math.min(40, trace.size()), w.z};
    return in(what, 0, 10) ? all[what] : err(BEYOND);
  }

  int told(int k) { return in(k, 1, 5) ? told[k] : err(BEYOND); }
}
