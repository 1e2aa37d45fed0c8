import java.util.Random;

/** Runs of random calls, the same on the program and on the Oracle; the seed is fixed. */
public final class OracleTest {
  private static final int RUNS = 1200;
  private static final int CALLS = 512;
  private static final String SIGNS = "fmslt0123456789!()|&<=>+-*/%";

  private final Random random;
  private NeckWorlds x;
  private Oracle o;
  private final StringBuilder log = new StringBuilder();

  private OracleTest(long seed) {
    random = new Random(seed);
  }

  public static void main(String[] args) {
    int first = args.length > 0 ? Integer.parseInt(args[0]) : 0;
    int runs = args.length > 1 ? Integer.parseInt(args[1]) : RUNS;
    for (int run = first; run < first + runs; run++) {
      new OracleTest(run).run(run);
    }
    Probe.end("OracleTest");
  }

  private void run(int number) {
    x = new NeckWorlds();
    o = new Oracle();
    int goods = random.nextInt(9);
    for (int i = 0; i < goods; i++) {
      good();
    }
    int calls = CALLS - goods;
    for (int left = calls; left > 0;) {
      int before = log.length();
      left -= act();
      if (log.length() > before && log.charAt(log.length() - 1) == '?') {
        Probe.due("run " + number + log, 0, 1);
        return;
      }
    }
    Probe.due("run " + number, 0, 0);
  }

  private boolean same(String call, long got, long want) {
    log.append("\n  ").append(call).append(" -> ").append(got);
    if (got == want) {
      return true;
    }
    log.append(", due is ").append(want).append(" ?");
    return false;
  }

  /** A number in from .. to, now and then one beyond. */
  private int some(int from, int to) {
    int k = random.nextInt(60);
    if (k == 0) return from - 1;
    if (k == 1) return to + 1;
    if (k == 2) return random.nextInt();
    return from + random.nextInt(Math.max(1, to - from + 1));
  }

  private int someGood() {
    return some(0, Math.max(0, o.w.goods.size() - 1));
  }

  private int someFloor() {
    int k = random.nextInt(4);
    return k == 0 ? 0 : k == 1 ? 40 : some(0, 40);
  }

  private boolean good() {
    int km = some(0, 69);
    int f = someFloor();
    return same("good(" + km + "," + f + ")", x.good(km, f), o.good(km, f));
  }

  private String expression(String names, int deep) {
    int k = random.nextInt(deep <= 0 ? 3 : 10);
    if (k == 0) return "" + random.nextInt(random.nextInt(4) == 0 ? 12000 : 25);
    if (k <= 2) return "" + names.charAt(random.nextInt(names.length()));
    if (k == 3) return "!" + expression(names, deep - 1);
    if (k <= 5) return "(" + expression(names, deep - 1) + ")";
    return expression(names, deep - 1) + "|&<=>+-*/%".charAt(random.nextInt(10)) + expression(names, deep - 1);
  }

  /** Feeds a text, likely one that a USE takes, and makes it its TEXT: how many calls. */
  private int text() {
    int use = random.nextInt(2);
    String t = random.nextInt(12) == 0 ? "" : expression(use == 0 ? "ffm" : "slt", random.nextInt(5));
    if (use == 0 && random.nextInt(3) == 0) {
      t = "(" + random.nextInt(41) + "-f)/" + (1 + random.nextInt(9)) + (random.nextBoolean() ? "+m%3-1" : "");
    }
    if (random.nextInt(6) == 0 && t.length() > 0) {
      int at = random.nextInt(t.length());
      t = t.substring(0, at) + SIGNS.charAt(random.nextInt(SIGNS.length())) + t.substring(at + random.nextInt(2));
    }
    int calls = 1;
    for (int i = 0; i < t.length() && i < 60; i += 8) {
      int n = Math.min(8, t.length() - i);
      long word = Probe.word(t, i, n);
      if (!same("feed(" + word + "," + n + ")", x.feed(word, n), o.feed(word, n))) return 1;
      calls++;
    }
    use = some(use, use);
    same("text(" + use + ") of " + t, x.text(use), o.text(use));
    return calls;
  }

  private int sheetOfNow() {
    int s = random.nextInt(4);
    int bits = 8 << random.nextInt(3);
    int n = random.nextInt(6);
    int calls = 1;
    if (!same("sheet", x.sheet(s, bits, n), o.sheet(s, bits, n))) return 1;
    int g = random.nextInt(Math.max(1, o.w.goods.size()));
    int kind = random.nextInt(3);
    for (int i = 0; i < n; i++) {
      int v = kind == 0 && o.isGood(g) ? o.then(i + 1, g, 0)
          : kind == 1 && o.isGood(i) ? o.w.goods.get(i).floor : random.nextInt(19) - 9;
      calls++;
      if (!same("put(" + s + "," + i + "," + v + ")", x.put(s, i, v), o.put(s, i, v))) return calls;
    }
    return calls;
  }

  private int tellOfNow() {
    int n = random.nextInt(4);
    Oracle.World v = o.w.copy();
    for (int i = 0; i < n; i++) {
      v.stepOn();
      int sum = random.nextInt(8) == 0 ? 1 : 0;
      for (Oracle.Good g : v.goods) sum += g.floor;
      if (!same("tell(" + sum + ")", x.tell(sum), o.tell(sum))) return 1;
    }
    same("check()", x.check(), o.check());
    return n + 1;
  }

  private int act() {
    int k = random.nextInt(44);
    if (k == 40) return text();
    if (k == 41) return sheetOfNow();
    if (k == 42) return tellOfNow();
    if (k < 12) {
      actOnGoods(k);
    } else if (k < 22) {
      actOnThoughts(k);
    } else if (k < 32) {
      actOnSheets(k);
    } else {
      actOnRest(k);
    }
    return 1;
  }

  private void actOnGoods(int k) {
    int g = someGood();
    int h = someGood();
    int a = some(-9, 9);
    int f = someFloor();
    int km = some(0, 69);
    int what = some(0, 9);
    int kind = some(0, 6);
    switch (k) {
      case 0: good(); break;
      case 1: same("become(" + g + "," + km + ")", x.become(g, km), o.become(g, km)); break;
      case 2: same("as(" + g + "," + kind + ")", x.as(g, kind), o.as(g, kind)); break;
      case 3: same("place(" + g + "," + f + ")", x.place(g, f), o.place(g, f)); break;
      case 4:
      case 5: same("push(" + g + "," + a + ")", x.push(g, a), o.push(g, a)); break;
      case 6: same("off(" + g + "," + h + "," + a + ")", x.off(g, h, a), o.off(g, h, a)); break;
      case 7: stepOn("steps"); break;
      case 8: stepOn("loose"); break;
      default: same("ofGood(" + g + "," + what + ")", x.ofGood(g, what), o.ofGood(g, what)); break;
    }
  }

  private void stepOn(String how) {
    int n = random.nextInt(30) == 0 ? some(1, 200) : some(1, 3);
    if (how.equals("steps")) {
      same("steps(" + n + ")", x.steps(n), o.steps(n));
    } else {
      same("loose(" + n + ")", x.loose(n), o.loose(n));
    }
  }

  private void actOnThoughts(int k) {
    int g = someGood();
    int side = some(0, 1);
    int p = some(-9, 9);
    int bit = some(0, 1);
    int n = random.nextInt(10) == 0 ? some(0, 200) : some(0, 5);
    int what = some(0, 2);
    int s = some(0, 3);
    int of = some(-2, o.w.goods.size() - 1);
    int quakes = some(0, 5);
    switch (k) {
      case 12: same("then(" + n + "," + g + "," + what + ")", x.then(n, g, what), o.then(n, g, what)); break;
      case 13: same("rests(" + g + "," + bit + ")", x.rests(g, bit), o.rests(g, bit)); break;
      case 14: same("first()", x.first(), o.first()); break;
      case 15: same("over(" + g + "," + side + "," + p + ")", x.over(g, side, p), o.over(g, side, p)); break;
      case 16: same("soonest(" + g + "," + side + "," + bit + ")", x.soonest(g, side, bit), o.soonest(g, side, bit)); break;
      case 17: same("least(" + g + "," + side + ")", x.least(g, side), o.least(g, side)); break;
      case 18: same("lifts(" + of + ")", x.lifts(of), o.lifts(of)); break;
      case 19: same("rolled(" + g + "," + s + "," + bit + ")", x.rolled(g, s, bit), o.rolled(g, s, bit)); break;
      case 20: same("whose(" + g + "," + s + ")", x.whose(g, s), o.whose(g, s)); break;
      default:
        // the Oracle is slow here
        if (random.nextInt(3) == 0) {
          same("odds(" + g + "," + side + "," + quakes + "," + bit + ")", x.odds(g, side, quakes, bit),
              o.odds(g, side, quakes, bit));
        }
    }
  }

  private void actOnSheets(int k) {
    int s = some(0, 3);
    int s2 = some(0, 3);
    int bits = random.nextInt(12) == 0 ? random.nextInt(40) - 3 : new int[] {0, 8, 16, 32}[random.nextInt(4)];
    int n = random.nextInt(4) == 0 ? some(0, 40) : some(0, 8);
    int i = some(0, 5);
    int j = some(0, 5);
    int few = some(0, 4);
    int v = random.nextBoolean() ? some(-9, 9) : random.nextInt(3) == 0 ? random.nextInt() : random.nextInt(600) - 300;
    switch (k) {
      case 22: same("sheet(" + s + "," + bits + "," + n + ")", x.sheet(s, bits, n), o.sheet(s, bits, n)); break;
      case 23:
      case 24:
      case 25: same("put(" + s + "," + i + "," + v + ")", x.put(s, i, v), o.put(s, i, v)); break;
      case 26:
      case 27:
      case 28: same("move(" + s + "," + i + "," + s2 + "," + j + "," + few + ")", x.move(s, i, s2, j, few),
          o.move(s, i, s2, j, few)); break;
      case 29: same("pushes(" + s + ")", x.pushes(s), o.pushes(s)); break;
      default: same("judge(" + s + ")", x.judge(s), o.judge(s)); break;
    }
  }

  private void actOnRest(int k) {
    int what = some(0, 2);
    int v = what == 0 ? some(2, 24) : some(-9, 9);
    int side = some(0, 1);
    int i = some(0, o.w.ring - 1);
    int j = some(0, o.w.ring - 1);
    int z = random.nextInt();
    int g = someGood();
    int act = some(0, 3);
    int of = some(0, 10);
    int use = some(0, 1);
    switch (k) {
      case 32: same("set(" + what + "," + v + ")", x.set(what, v), o.set(what, v)); break;
      case 33: same("door(" + side + "," + i + ")", x.door(side, i), o.door(side, i)); break;
      case 34: same("lineUp(" + i + "," + j + ")", x.lineUp(i, j), o.lineUp(i, j)); break;
      case 35: same("voice(" + g + "," + act + "," + z + ")", x.voice(g, act, z), o.voice(g, act, z)); break;
      case 36: same("trace(" + i + ")", x.trace(i), o.trace(i)); break;
      case 37: same("count(" + of + ")", x.count(of), o.count(of)); break;
      case 38: same("told(" + side + ")", x.told(side), o.told(side)); same2(use, j, z); break;
      case 39:
        if (random.nextInt(3) == 0) same("image()", x.image(), o.image());
        else same("restore()", x.restore(), o.restore());
        break;
      default:
        if (random.nextInt(4) == 0) same("seed(" + z + ")", x.seed(z), o.seed(z));
        else same("told(" + act + ")", x.told(act + 2), o.told(act + 2));
    }
  }

  private void same2(int use, int j, int z) {
    int a = random.nextInt(4) == 0 ? z : some(0, 40);
    if (log.charAt(log.length() - 1) != '?') {
      same("law(" + use + "," + a + "," + j + "," + z + ")", x.law(use, a, j, z), o.law(use, a, j, z));
    }
  }
}
