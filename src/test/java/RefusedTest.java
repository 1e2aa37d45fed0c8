import java.util.ArrayList;
import java.util.List;

/**
 * Refused calls: with which ERROR, in which order they are asked, the last argument that is taken and
 * the first that is refused on both sides; "one that answers an ERROR changes nothing but what told()
 * tells"; and that what is only thought, and what only tells, changes nothing at all.
 */
public final class RefusedTest {
  private static final int BEYOND = Probe.BEYOND;
  private static final int NONE = Probe.NONE;
  private static final int STATE = Probe.STATE;
  private static final int FULL = Probe.FULL;
  private static final int KIND = Probe.KIND;
  private static final int MIN = Integer.MIN_VALUE;
  private static final int MAX = Integer.MAX_VALUE;

  private interface Act {
    int on(NeckWorlds x, int[] v);
  }

  private interface Call {
    int on(NeckWorlds x);
  }

  /** A call, arguments that it takes, and the bounds of those that have bounds which answer BEYOND. */
  private static final class Form {
    final String name;
    final int[] usual;
    final int[] least;
    final int[] most;
    final Act act;

    Form(String name, int[] usual, int[] least, int[] most, Act act) {
      this.name = name;
      this.usual = usual;
      this.least = least;
      this.most = most;
      this.act = act;
    }
  }

  private final Stage stage;
  private final String look;
  private final List<Form> forms = new ArrayList<>();

  private RefusedTest(Stage stage) {
    this.stage = stage;
    look = stage.look(stage.make());
  }

  public static void main(String[] args) {
    for (Stage stage : Stage.all()) {
      RefusedTest test = new RefusedTest(stage);
      test.fillForms();
      test.beyond();
      test.taken();
    }
    stages();
    emptyRefuses();
    ordinaryRefuses();
    fullRefuses();
    refusesInOrder();
    refusesAtItsEnds();
    sheetsRefuse();
    movesRefuse();
    onlyThought();
    noErrors();
    Probe.end("RefusedTest");
  }

  /** What the other tests lean on: the Stages are what they are meant to be. */
  private static void stages() {
    NeckWorlds x = Stage.full().make();
    Probe.due("full: 8 GOODS", x.count(0), 8);
    Probe.due("full: STEP", x.count(1), 9999);
    Probe.due("full: THE TAPE", x.count(7), 50);
    Probe.due("full: they wait", x.count(8), 20);
    Probe.due("full: what waits is so", x.check(), 0);
    Probe.due("full: THE TAPE is a TEXT", x.text(0), 1);
    NeckWorlds y = Stage.ordinary().make();
    Probe.holds("ordinary: TAKINGS", y.count(2) != 0);
    Probe.due("ordinary: they wait", y.count(8), 2);
    Probe.due("ordinary: what waits is so", y.check(), 0);
    Probe.due("ordinary: THE TAPE is a TEXT", y.text(0), 1);
    Probe.holds("ordinary: an IMAGE of other GOODS", y.restore() != y.count(0) && y.count(0) == 3);
  }

  private void refused(String what, int error, Call call) {
    Probe.due(stage.name + ": " + what, call.on(stage.make()), error);
    unchanged(what, call);
  }

  private void same(String what, NeckWorlds x) {
    String now = stage.look(x);
    if (!now.equals(look)) {
      Probe.due(stage.name + ": " + what + " changed " + firstUnlike(now, look), 1, 0);
    }
  }

  private static String firstUnlike(String now, String then) {
    String[] a = now.split("\n");
    String[] b = then.split("\n");
    for (int i = 0; i < Math.min(a.length, b.length); i++) {
      if (!a[i].equals(b[i])) {
        return a[i] + " from " + b[i];
      }
    }
    return "how much there is";
  }

  /** No change, but for told() if it answers an ERROR. */
  private void unchanged(String what, Call call) {
    NeckWorlds x = stage.make();
    int[] before = new int[6];
    for (int k = 1; k <= 5; k++) {
      before[k] = x.told(k);
    }
    int got = call.on(x);
    for (int k = 1; k <= 5; k++) {
      int more = got == -1000000000 - k ? 1 : 0;
      Probe.due(stage.name + ": told(" + k + ") behind " + what, x.told(k), before[k] + more);
    }
    same(what, x);
  }

  private static int[] row(int... numbers) {
    return numbers;
  }

  private void form(String name, int[] usual, int[] least, int[] most, Act act) {
    forms.add(new Form(name, usual, least, most, act));
  }

  private void fillForms() {
    int g = stage.goods - 1;
    form("good", row(0, 0), row(0, 0), row(69, 40), (x, v) -> x.good(v[0], v[1]));
    form("ofGood", row(0, 0), row(0, 0), row(g, 9), (x, v) -> x.ofGood(v[0], v[1]));
    form("become", row(0, 0), row(0, 0), row(g, 69), (x, v) -> x.become(v[0], v[1]));
    form("as", row(0, 0), row(0, 0), row(g, 6), (x, v) -> x.as(v[0], v[1]));
    form("place", row(0, 0), row(0, 0), row(g, 40), (x, v) -> x.place(v[0], v[1]));
    form("push", row(0, 0), row(0, -9), row(g, 9), (x, v) -> x.push(v[0], v[1]));
    form("off", row(0, 1, 0), row(0, 0, -9), row(g, g, 9), (x, v) -> x.off(v[0], v[1], v[2]));
    form("off of GOOD 1", row(1, 0, 0), row(0, 0, -9), row(g, g, 9), (x, v) -> x.off(v[0], v[1], v[2]));
    form("set RING", row(5), row(2), row(24), (x, v) -> x.set(0, v[0]));
    form("set SHEAR 0", row(5), row(-9), row(9), (x, v) -> x.set(1, v[0]));
    form("set SHEAR 1", row(5), row(-9), row(9), (x, v) -> x.set(2, v[0]));
    form("set", row(0), row(0), row(2), (x, v) -> x.set(v[0], 5));
    form("door", row(0, 0), row(0, 0), row(1, stage.ring - 1), (x, v) -> x.door(v[0], v[1]));
    form("lineUp", row(0, 0), row(0, 0), row(stage.ring - 1, stage.ring - 1), (x, v) -> x.lineUp(v[0], v[1]));
    form("feed", row(1), row(1), row(8), (x, v) -> x.feed(102, v[0]));
    form("text", row(0), row(0), row(1), (x, v) -> x.text(v[0]));
    form("law", row(0), row(0), row(1), (x, v) -> x.law(v[0], 1, 2, 3));
    form("steps", row(1), row(1), row(200), (x, v) -> x.steps(v[0]));
    form("loose", row(1), row(1), row(200), (x, v) -> x.loose(v[0]));
    form("then", row(0, 0, 0), row(0, 0, 0), row(200, g, 2), (x, v) -> x.then(v[0], v[1], v[2]));
    fillMoreForms(g);
  }

  private void fillMoreForms(int g) {
    form("rests", row(0, 0), row(0, 0), row(g, 1), (x, v) -> x.rests(v[0], v[1]));
    form("over", row(0, 0, 0), row(0, 0, -9), row(g, 1, 9), (x, v) -> x.over(v[0], v[1], v[2]));
    form("soonest", row(0, 0, 0), row(0, 0, 0), row(g, 1, 1), (x, v) -> x.soonest(v[0], v[1], v[2]));
    form("least", row(0, 0), row(0, 0), row(g, 1), (x, v) -> x.least(v[0], v[1]));
    form("lifts", row(-2), row(-2), row(g), (x, v) -> x.lifts(v[0]));
    form("rolled", row(0, 0, 0), row(0, 0, 0), row(g, 3, 1), (x, v) -> x.rolled(v[0], v[1], v[2]));
    form("whose", row(0, 0), row(0, 0), row(g, 3), (x, v) -> x.whose(v[0], v[1]));
    form("odds", row(0, 0, 0, 0), row(0, 0, 0, 0), row(g, 1, 5, 1), (x, v) -> x.odds(v[0], v[1], v[2], v[3]));
    form("voice", row(0, 0), row(0, 0), row(g, 3), (x, v) -> x.voice(v[0], v[1], 5));
    form("sheet", row(0), row(0), row(3), (x, v) -> x.sheet(v[0], 16, 2));
    form("sheet of 0 bits", row(0), row(0), row(3), (x, v) -> x.sheet(v[0], 0, 2));
    form("put", row(0), row(0), row(3), (x, v) -> x.put(v[0], 0, 1));
    form("move", row(0, 0), row(0, 0), row(3, 3), (x, v) -> x.move(v[0], 0, v[1], 0, 0));
    form("pushes", row(0), row(0), row(3), (x, v) -> x.pushes(v[0]));
    form("judge", row(0), row(0), row(3), (x, v) -> x.judge(v[0]));
    form("count", row(0), row(0), row(10), (x, v) -> x.count(v[0]));
    form("told", row(1), row(1), row(5), (x, v) -> x.told(v[0]));
  }

  /** The first argument that is refused on both sides, and those far beyond. */
  private void beyond() {
    for (Form f : forms) {
      for (int i = 0; i < f.least.length; i++) {
        for (int v : row(f.least[i] - 1, f.most[i] + 1, MIN, MAX, f.least[i] - 256, f.most[i] + 256)) {
          int[] all = f.usual.clone();
          all[i] = v;
          refused(f.name + " with " + v + " in place " + i, BEYOND, x -> f.act.on(x, all));
        }
      }
    }
  }

  /** The last argument that is taken on both sides, all others being taken, too. */
  private void taken() {
    for (Form f : forms) {
      for (int i = 0; i < f.least.length; i++) {
        for (int v : row(f.least[i], f.most[i])) {
          int[] all = f.usual.clone();
          all[i] = v;
          if (!canBeTaken(f, all)) continue;
          int got = f.act.on(stage.make(), all);
          Probe.holds(stage.name + ": " + f.name + " takes " + v + " in place " + i, got != BEYOND);
        }
      }
    }
  }

  /** Not so without GOODS or numbers, if it is asked of one, nor for two like GOODS. */
  private boolean canBeTaken(Form f, int[] all) {
    for (int i = 0; i < all.length; i++) {
      if (all[i] < f.least[i] || all[i] > f.most[i]) {
        return false;
      }
    }
    if (f.name.equals("put") && stage.sheets[all[0]] != null && stage.sheets[all[0]].length == 0) {
      return false;
    }
    return !f.name.startsWith("off") || all[0] != all[1];
  }

  private static void emptyRefuses() {
    RefusedTest test = new RefusedTest(Stage.empty());
    test.refused("first", NONE, x -> x.first());
    test.refused("restore", NONE, x -> x.restore());
    test.refused("trace(0)", NONE, x -> x.trace(0));
    test.refused("lifts(0)", BEYOND, x -> x.lifts(0));
    for (int s = 0; s < 4; s++) {
      int sheet = s;
      test.refused("put", NONE, x -> x.put(sheet, 0, 1));
      test.refused("pushes", NONE, x -> x.pushes(sheet));
      test.refused("judge", NONE, x -> x.judge(sheet));
      test.refused("move", NONE, x -> x.move(sheet, 0, sheet, 0, 0));
    }
    for (int j = 1; j < 12; j += 2) {
      int door = j;
      test.refused("lineUp(0, " + j + ")", NONE, x -> x.lineUp(0, door));
    }
  }

  private static void ordinaryRefuses() {
    RefusedTest test = new RefusedTest(Stage.ordinary());
    // KINDS 0 GOOD, 1 STONE, 2 ROPED, 6 ANVIL
    int[][] isNot = {{1, 2, 3, 4, 5, 6}, {2, 3, 4, 5, 6}, {1, 3, 4, 5, 6}, {2, 3, 4, 5}};
    for (int g = 0; g < 4; g++) {
      for (int kind : isNot[g]) {
        int good = g;
        test.refused("as(" + g + ", " + kind + ")", KIND, x -> x.as(good, kind));
      }
    }
    test.refused("off", STATE, x -> x.off(0, 1, 9));
    test.refused("off, the other way", STATE, x -> x.off(3, 0, -9));
    test.refused("off of a GOOD and itself", BEYOND, x -> x.off(2, 2, 1));
    test.refused("over by REACH", NONE, x -> x.over(2, 1, 9));
    test.refused("soonest by REACH", NONE, x -> x.soonest(2, 1, 0));
    test.refused("soonest by REACH", NONE, x -> x.soonest(2, 1, 1));
    test.refused("least by REACH", NONE, x -> x.least(2, 1));
    test.refused("rolled by a missing SHEET", NONE, x -> x.rolled(0, 3, 0));
    test.refused("rolled by none", NONE, x -> x.rolled(2, 0, 1));
    test.refused("whose by a missing SHEET", NONE, x -> x.whose(0, 3));
    test.refused("whose by none", NONE, x -> x.whose(2, 0));
    for (int i : row(-1, 40, 41, MIN, MAX)) {
      test.refused("trace(" + i + ")", NONE, x -> x.trace(i));
    }
    int bodies = Stage.ordinary().make().count(9);
    test.refused("trace, one more", NONE, x -> x.trace(bodies));
    test.unchanged("trace, the last", x -> x.trace(bodies - 1));
  }

  private static void fullRefuses() {
    RefusedTest test = new RefusedTest(Stage.full());
    test.refused("good, a ninth", FULL, x -> x.good(0, 0));
    test.refused("good, a ninth at its bounds", FULL, x -> x.good(69, 40));
    for (int n = 1; n <= 8; n++) {
      int many = n;
      test.refused("feed of " + n, FULL, x -> x.feed(102, many));
    }
    test.refused("tell, a twenty-first", FULL, x -> x.tell(7));
    for (int n : row(1, 2, 200)) {
      test.refused("steps(" + n + ")", STATE, x -> x.steps(n));
      test.refused("loose(" + n + ")", STATE, x -> x.loose(n));
    }
    test.refused("rests", NONE, x -> x.rests(0, 0));
    test.refused("rests", NONE, x -> x.rests(0, 1));
    test.refused("first", NONE, x -> x.first());
    for (int side = 0; side <= 1; side++) {
      int s = side;
      test.refused("over", NONE, x -> x.over(0, s, 9));
      test.refused("over", NONE, x -> x.over(0, s, -9));
      test.refused("soonest", NONE, x -> x.soonest(0, s, 0));
      test.refused("soonest", NONE, x -> x.soonest(0, s, 1));
      test.refused("least", NONE, x -> x.least(0, s));
    }
    test.refused("lineUp", NONE, x -> x.lineUp(0, 1));
    test.refused("lineUp", NONE, x -> x.lineUp(23, 0));
    test.refused("rolled", NONE, x -> x.rolled(0, 0, 0));
    test.refused("rolled", NONE, x -> x.rolled(0, 1, 1));
    test.refused("whose", NONE, x -> x.whose(0, 2));
    test.refused("as", KIND, x -> x.as(0, 4));
    test.refused("off", STATE, x -> x.off(0, 3, 1));
  }

  /** "Each act tells its ERRORS in the order in which they are asked": two could be told, one is. */
  private static void refusesInOrder() {
    RefusedTest full = new RefusedTest(Stage.full());
    full.refused("good: BEYOND, FULL", BEYOND, x -> x.good(70, 0));
    full.refused("good: BEYOND, FULL", BEYOND, x -> x.good(0, 41));
    full.refused("feed: BEYOND, FULL", BEYOND, x -> x.feed(102, 9));
    full.refused("feed: BEYOND, FULL", BEYOND, x -> x.feed(102, 0));
    full.refused("steps: BEYOND, STATE", BEYOND, x -> x.steps(201));
    full.refused("steps: BEYOND, STATE", BEYOND, x -> x.steps(MAX));
    full.refused("loose: BEYOND, STATE", BEYOND, x -> x.loose(201));
    full.refused("loose: BEYOND, STATE", BEYOND, x -> x.loose(MAX));
    full.refused("off: BEYOND, STATE", BEYOND, x -> x.off(0, 3, 10));
    full.refused("off: BEYOND, STATE", BEYOND, x -> x.off(0, 3, -10));
    full.refused("as: BEYOND, KIND", BEYOND, x -> x.as(0, 7));
    full.refused("lineUp: BEYOND, NONE", BEYOND, x -> x.lineUp(0, 24));
    full.refused("lineUp: BEYOND, NONE", BEYOND, x -> x.lineUp(24, 1));
    full.refused("rests: BEYOND, NONE", BEYOND, x -> x.rests(0, 2));
    full.refused("over: BEYOND, NONE", BEYOND, x -> x.over(0, 1, 10));
    full.refused("over: BEYOND, NONE", BEYOND, x -> x.over(0, 2, 9));
    full.refused("soonest: BEYOND, NONE", BEYOND, x -> x.soonest(0, 1, 2));
    full.refused("least: BEYOND, NONE", BEYOND, x -> x.least(0, 2));
    full.refused("rolled: BEYOND, NONE", BEYOND, x -> x.rolled(0, 0, 2));
    RefusedTest empty = new RefusedTest(Stage.empty());
    empty.refused("rolled: BEYOND, NONE", BEYOND, x -> x.rolled(0, 0, 0));
    empty.refused("whose: BEYOND, NONE", BEYOND, x -> x.whose(0, 0));
    RefusedTest ordinary = new RefusedTest(Stage.ordinary());
    ordinary.refused("rolled: BEYOND, NONE", BEYOND, x -> x.rolled(0, 3, 2));
    ordinary.refused("rolled: BEYOND, NONE", BEYOND, x -> x.rolled(4, 3, 0));
    ordinary.refused("whose: BEYOND, NONE", BEYOND, x -> x.whose(4, 3));
  }

  /** THE TAPE at 49 and less, STEP a few below its end. */
  private static void refusesAtItsEnds() {
    for (int there = 42; there <= 50; there++) {
      for (int n = 1; n <= 8; n++) {
        NeckWorlds x = new NeckWorlds();
        for (int i = 0; i < there; i++) {
          x.feed(49, 1);
        }
        boolean fits = there + n <= 50;
        Probe.due("feed of " + n + " to " + there, x.feed(49, n), fits ? there + n : FULL);
        Probe.due("THE TAPE behind it", x.count(7), fits ? there + n : there);
      }
    }
    for (int below = 1; below <= 200; below += 33) {
      for (int more = -1; more <= 1; more++) {
        int n = below + more;
        if (n < 1 || n > 200) continue;
        NeckWorlds x = new NeckWorlds();
        for (int left = 9999 - below; left > 0; left -= 200) {
          x.steps(Math.min(200, left));
        }
        x.image();
        Probe.due("steps(" + n + "), STEP " + (9999 - below), x.steps(n), more > 0 ? STATE : 0);
        Probe.due("STEP behind it", x.count(1), more > 0 ? 9999 - below : 9999 - below + n);
        x.restore();
        Probe.due("loose(" + n + "), STEP " + (9999 - below), x.loose(n), more > 0 ? STATE : 0);
        Probe.due("STEP behind it", x.count(1), more > 0 ? 9999 - below : 9999 - below + n);
      }
    }
  }

  private static void sheetsRefuse() {
    for (Stage stage : Stage.all()) {
      RefusedTest test = new RefusedTest(stage);
      for (int bits : row(-32, -16, -8, -1, 1, 7, 9, 15, 17, 24, 31, 33, 64, MIN, MAX)) {
        test.refused("sheet of " + bits + " bits", BEYOND, x -> x.sheet(0, bits, 3));
        test.refused("sheet of " + bits + " bits: BEYOND, STATE", BEYOND, x -> x.sheet(0, bits, -1));
      }
      for (int bits : row(8, 16, 32)) {
        for (int n : row(-1, -2, -41, MIN)) {
          test.refused("sheet of " + n + " numbers", STATE, x -> x.sheet(1, bits, n));
        }
        for (int n : row(41, 42, 256, MAX)) {
          test.refused("sheet of " + n + " numbers", BEYOND, x -> x.sheet(1, bits, n));
        }
      }
      test.refused("no such SHEET: BEYOND, STATE", BEYOND, x -> x.sheet(4, 8, -1));
      test.refused("no such SHEET: BEYOND, STATE", BEYOND, x -> x.sheet(-1, 8, -1));
      for (int s = 0; s < 4; s++) {
        int sheet = s;
        boolean isThere = stage.sheets[s] != null;
        int length = isThere ? stage.sheets[s].length : 0;
        for (int i : row(-1, MIN, length, length + 1, 40, MAX)) {
          test.refused("put of number " + i, isThere ? BEYOND : NONE, x -> x.put(sheet, i, 1));
        }
      }
      test.refused("put: BEYOND, NONE", BEYOND, x -> x.put(4, -1, 1));
    }
  }

  private static void movesRefuse() {
    RefusedTest ordinary = new RefusedTest(Stage.ordinary());
    ordinary.refused("move: BEYOND, NONE", BEYOND, x -> x.move(4, 0, 3, 0, 1));
    ordinary.refused("move: BEYOND, NONE", BEYOND, x -> x.move(3, 0, 4, 0, 1));
    ordinary.refused("move from a missing SHEET", NONE, x -> x.move(3, 0, 0, 0, 1));
    ordinary.refused("move to a missing SHEET", NONE, x -> x.move(0, 0, 3, 0, 1));
    ordinary.refused("move: NONE, BEYOND", NONE, x -> x.move(3, -1, 0, 0, 1));
    ordinary.refused("move: NONE, BEYOND", NONE, x -> x.move(0, 0, 3, 0, 41));
    ordinary.refused("move of unlike bits", KIND, x -> x.move(0, 0, 1, 0, 1));
    ordinary.refused("move of unlike bits", KIND, x -> x.move(2, 0, 1, 0, 1));
    ordinary.refused("move of unlike bits", KIND, x -> x.move(2, 0, 0, 0, 0));
    ordinary.refused("move: KIND, BEYOND", KIND, x -> x.move(0, -1, 1, 0, 1));
    ordinary.refused("move: KIND, BEYOND", KIND, x -> x.move(0, 0, 1, 0, -1));
    ordinary.refused("move: KIND, BEYOND", KIND, x -> x.move(0, 0, 1, 3, 1));
    RefusedTest full = new RefusedTest(Stage.full());
    // SHEET 0 has 8 numbers, SHEET 1 has 3
    int[][] refused = {
      {0, 0, -1}, {0, 0, MIN}, {-1, 0, 1}, {MIN, 0, 1}, {0, -1, 1}, {0, MIN, 1}, {8, 0, 1}, {0, 3, 1},
      {6, 0, 3}, {0, 1, 3}, {0, 0, 4}, {0, 0, 9}, {0, 0, MAX}, {MAX, 0, 1}, {0, MAX, 1}, {MAX, MAX, MAX},
      {1, 1, MAX}, {9, 0, 0}, {0, 4, 0}, {-1, 0, 0}, {0, -1, 0},
    };
    for (int[] r : refused) {
      full.refused("move from " + r[0] + " to " + r[1] + " of " + r[2], BEYOND,
          x -> x.move(0, r[0], 1, r[1], r[2]));
    }
    int[][] taken = {{0, 0, 3}, {5, 0, 3}, {7, 2, 1}, {8, 3, 0}, {0, 0, 0}, {8, 0, 0}, {0, 3, 0}};
    for (int[] r : taken) {
      Probe.due("move from " + r[0] + " to " + r[1], Stage.full().make().move(0, r[0], 1, r[1], r[2]), r[2]);
    }
    full.refused("move within one", BEYOND, x -> x.move(0, 1, 0, 0, 8));
    full.refused("move within one", BEYOND, x -> x.move(0, 0, 0, 1, 8));
    full.refused("move of an empty SHEET", BEYOND, x -> x.move(3, 0, 3, 0, 1));
  }

  /** "(All this is only thought.)", and what only tells. */
  private static void onlyThought() {
    for (Stage stage : new Stage[] {Stage.ordinary(), Stage.full()}) {
      RefusedTest test = new RefusedTest(stage);
      for (int g = 0; g < stage.goods; g++) {
        test.onlyThoughtOf(g);
      }
      test.unchanged("first", x -> x.first());
      for (int what = -2; what < stage.goods; what++) {
        int w = what;
        test.unchanged("lifts", x -> x.lifts(w));
      }
      for (int what = 0; what <= 10; what++) {
        int w = what;
        test.unchanged("count", x -> x.count(w));
      }
      for (int k = 1; k <= 5; k++) {
        int of = k;
        test.unchanged("told", x -> x.told(of));
        test.unchanged("trace", x -> x.trace(of));
      }
      for (int s = 0; s < 4; s++) {
        int sheet = s;
        test.unchanged("judge", x -> x.judge(sheet));
      }
      for (int i = 0; i < stage.ring; i++) {
        int door = i;
        test.unchanged("door", x -> x.door(0, door));
        test.unchanged("lineUp", x -> x.lineUp(door, 0));
      }
      for (int f : row(MIN, -1, 0, 20, 40, MAX)) {
        test.unchanged("law", x -> x.law(0, f, 3, 0));
        test.unchanged("law", x -> x.law(1, 1, f, 9));
      }
    }
  }

  private void onlyThoughtOf(int good) {
    for (int what = 0; what <= 9; what++) {
      int w = what;
      unchanged("ofGood", x -> x.ofGood(good, w));
    }
    for (int n : row(0, 1, 7, 200)) {
      unchanged("then", x -> x.then(n, good, n % 3));
    }
    for (int side = 0; side <= 1; side++) {
      int s = side;
      unchanged("over", x -> x.over(good, s, 9));
      unchanged("over", x -> x.over(good, s, -9));
      unchanged("soonest", x -> x.soonest(good, s, s));
      unchanged("least", x -> x.least(good, s));
      unchanged("odds", x -> x.odds(good, s, 5, 0));
      unchanged("odds", x -> x.odds(good, s, 0, 1));
      unchanged("rests", x -> x.rests(good, s));
    }
    for (int kind = 0; kind <= 6; kind++) {
      int k = kind;
      unchanged("as", x -> x.as(good, k));
    }
    for (int s = 0; s < 4; s++) {
      int sheet = s;
      unchanged("rolled", x -> x.rolled(good, sheet, 1));
      unchanged("whose", x -> x.whose(good, sheet));
    }
  }

  /** Answers that are numbers below -1000000000, or refuse in their own way, are no ERRORS. */
  private static void noErrors() {
    NeckWorlds x = new NeckWorlds();
    x.good(0, 20);
    for (int k = 1; k <= 5; k++) {
      int error = -1000000000 - k;
      x.seed(error);
      Probe.due("count of z", x.count(10), error);
      Probe.due("seed", x.seed(0), error);
      Probe.due("voice", x.voice(0, 0, error), error);
      Probe.due("voice", x.voice(0, 2, error), error);
    }
    Probe.due("a FAULT", x.text(0), -10);
    x.sheet(0, 16, 1);
    x.put(0, 0, 10);
    Probe.due("no PUSH", x.pushes(0), 0);
    Probe.due("one that isn't so", x.judge(0), 0);
    x.tell(1);
    Probe.due("one that isn't so", x.check(), 1);
    Probe.due("told", Stage.told(x).equals("0 0 0 0 0 ") ? 1 : 0, 1);
  }
}
