/**
 * Worlds made ready for a test, the same each time, and a look at all that can be seen of one:
 * two of a Stage, of which one answered one more call, look the same if that call changed nothing.
 */
final class Stage {
  /** GOOD 0 of `full`, ROPED, goes up and down between 18 and 22: it never rests, nor is it ever over. */
  private static final String RESTLESS = "20-f";
  private static final String FIFTY = "f*2+m*3-1111*(f>40)+!!f*0-(((f)))%7+m/3-f/9+1*1<50";

  final String name;
  final int goods;
  final int ring;
  /** By SHEET its numbers, all of them FLOORS; null: it is missing. */
  final int[][] sheets;
  private final int[] bits;
  /** What the 20 numbers that wait in `full` are: it takes long to find out. */
  private int[] sums;

  private Stage(String name, int goods, int ring, int[][] sheets, int[] bits) {
    this.name = name;
    this.goods = goods;
    this.ring = ring;
    this.sheets = sheets;
    this.bits = bits;
  }

  static Stage[] all() {
    return new Stage[] {empty(), ordinary(), full()};
  }

  static Stage empty() {
    return new Stage("empty", 0, 12, new int[4][], new int[4]);
  }

  static Stage ordinary() {
    int[][] sheets = {{9, 0, 30, 4}, {7, 8}, {1, 2, 3}, null};
    return new Stage("ordinary", 4, 9, sheets, new int[] {8, 16, 32, 0});
  }

  static Stage full() {
    int[][] sheets = {{1, 2, 3, 4, 5, 6, 7, 8}, {9, 10, 11}, {40, 0, 40, 0, 40}, {}};
    return new Stage("full", 8, 24, sheets, new int[] {8, 8, 16, 32});
  }

  NeckWorlds make() {
    NeckWorlds x = new NeckWorlds();
    if (name.equals("ordinary")) {
      makeOrdinary(x);
    } else if (name.equals("full")) {
      makeGoods(x);
      makeFull(x);
    }
    return x;
  }

  private void makeSheets(NeckWorlds x) {
    for (int s = 0; s < 4; s++) {
      if (sheets[s] != null) {
        Probe.fill(x, s, bits[s], sheets[s]);
      }
    }
  }

  private void makeOrdinary(NeckWorlds x) {
    x.good(3, 30);
    x.good(14, 0);
    x.good(25, 18);
    x.steps(4);
    Probe.text(x, 0, "(f-20)/4+m%2");
    Probe.text(x, 1, "l+t*2-s");
    Probe.tape(x, "f+1");
    x.set(0, 7);
    x.set(1, 4);
    x.seed(12345);
    x.push(2, 2);
    x.steps(2);
    tellSums(x, 3, 3);
    x.image();
    x.good(61, 33);
    Probe.tape(x, "*m");
    Probe.text(x, 1, "l*2");
    Probe.text(x, 0, "(f-19)/4+m%3");
    Probe.tape(x, "m*4-f/3");
    x.set(0, ring);
    x.set(2, -3);
    x.seed(777);
    x.loose(3);
    x.place(0, 12);
    x.push(0, -3);
    x.check();
    tellSums(x, 4, 2);
    makeSheets(x);
    x.voice(2, 3, 7);
    x.good(70, 0);
    x.trace(40);
    x.sheet(0, 8, -1);
  }

  /** What waits then is so, so that a number more, less or changed is seen by check(). */
  private static void tellSums(NeckWorlds x, int goods, int n) {
    for (int k = 1; k <= n; k++) {
      int sum = 0;
      for (int g = 0; g < goods; g++) {
        sum += x.then(k, g, 0);
      }
      x.tell(sum);
    }
  }

  private static void makeGoods(NeckWorlds x) {
    int[] kms = {20, 11, 34, 4, 46, 55, 62, 8};
    int[] floors = {20, 0, 31, 40, 22, 9, 40, 0};
    for (int i = 0; i < 8; i++) {
      x.good(kms[i], floors[i]);
    }
    Probe.text(x, 0, RESTLESS);
    x.push(0, 1);
    for (int i = 0; i < 49; i++) {
      x.steps(200);
    }
    x.loose(199);
    x.place(0, 20);
    x.push(0, 1);
  }

  private void makeFull(NeckWorlds x) {
    x.set(0, ring);
    x.set(1, 3);
    x.set(2, 3);
    if (sums == null) {
      sums = sumsOfFull();
    }
    for (int sum : sums) {
      x.tell(sum);
    }
    Probe.tape(x, FIFTY);
    x.image();
    makeSheets(x);
    x.voice(4, 3, 5);
  }

  /** Asked of another object, since so many calls would be too many for one. */
  private static int[] sumsOfFull() {
    int[] sums = new int[20];
    for (int g = 0; g < 8; g++) {
      NeckWorlds x = new NeckWorlds();
      makeGoods(x);
      for (int k = 0; k < 20; k++) {
        sums[k] += x.then(k + 1, g, 0);
      }
    }
    return sums;
  }

  static String told(NeckWorlds x) {
    StringBuilder all = new StringBuilder();
    for (int k = 1; k <= 5; k++) {
      all.append(x.told(k)).append(' ');
    }
    return all.toString();
  }

  /** All that can be seen of an object but told(); it is not as it was then. */
  String look(NeckWorlds x) {
    StringBuilder all = new StringBuilder();
    int bodies = x.count(9);
    for (int i = 0; i < bodies; i++) {
      add(all, "trace " + i, x.trace(i));
    }
    lookAtWorld(x, all);
    lookAtSheets(x, all);
    lookAtTape(x, all);
    add(all, "restore", x.restore());
    lookAtWorld(x, all);
    lookAtTape(x, all);
    add(all, "image", x.image());
    return all.toString();
  }

  private static void add(StringBuilder all, String what, int is) {
    all.append(what).append(' ').append(is).append('\n');
  }

  private static void lookAtWorld(NeckWorlds x, StringBuilder all) {
    for (int what = 0; what <= 10; what++) {
      add(all, "count " + what, x.count(what));
    }
    int goods = x.count(0);
    for (int g = 0; g < goods; g++) {
      for (int what = 0; what <= 9; what++) {
        add(all, "good " + g + " " + what, x.ofGood(g, what));
      }
    }
    for (int f = -4; f <= 44; f += 12) {
      add(all, "PULL at " + f, x.law(0, f, f & 7, 0));
    }
    add(all, "TAX", x.law(1, 0, 7, 3));
    add(all, "TAX", x.law(1, 1, 2, 9));
    add(all, "check", x.check());
    add(all, "RING", x.set(0, 12));
    add(all, "SHEAR 0", x.set(1, 1));
    add(all, "SHEAR 1", x.set(2, -1));
  }

  private void lookAtSheets(NeckWorlds x, StringBuilder all) {
    for (int s = 0; s < 4; s++) {
      int many = sheets[s] == null ? 0 : sheets[s].length;
      for (int i = 0; i < many; i++) {
        x.place(i, sheets[s][i]);
      }
      add(all, "SHEET " + s, x.judge(s));
      if (many > 0) {
        x.put(s, 0, sheets[s][0] + 256);
        add(all, "SHEET " + s + ", 8 bits", x.judge(s));
        x.put(s, 0, sheets[s][0] + 65536);
        add(all, "SHEET " + s + ", 16 bits", x.judge(s));
      }
      add(all, "SHEET " + s + ", its last", x.put(s, many - 1, 0));
      add(all, "SHEET " + s + ", beyond it", x.put(s, many, 0));
    }
  }

  private static void lookAtTape(NeckWorlds x, StringBuilder all) {
    add(all, "TAPE", x.text(0));
    for (int f = -40; f <= 40; f += 16) {
      add(all, "TAPE at " + f, x.law(0, f, f & 3, 0));
    }
  }
}
