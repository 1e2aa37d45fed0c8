/**
 * Terms 3 and the promises on what would be, draws and VOICES, read sentence by sentence:
 * each that names a bound has a test of its own, with its words at its head.
 * What is refused, and what that leaves as it is, is RefusedTest's.
 */
public final class ThoughtsTest {
  private static final int BEYOND = Probe.BEYOND;
  private static final int NONE = Probe.NONE;
  private static final int MIN = Integer.MIN_VALUE;
  private static final int MAX = Integer.MAX_VALUE;

  private static void due(String what, long got, long want) {
    Probe.due(what, got, want);
  }

  public static void main(String[] args) {
    rests();
    pushes();
    lifts();
    odds();
    draws();
    voices();
    Probe.end("ThoughtsTest");
  }

  private static int[] row(int... numbers) {
    return numbers;
  }

  // ---- Terms 3: RESTS, FIRST, OVER, SOONEST, LEAST

  private static void rests() {
    restsFrom0();
    overFrom0();
    soonestAndLeastBy100();
    firstBySoonestThenNumber();
    firstBy200();
  }

  /** "RESTS of a GOOD: behind how many STEPS (0 to 200) it is so first, and where" */
  private static void restsFrom0() {
    for (int speed = 1; speed <= 9; speed++) {
      NeckWorlds x = Probe.still(10, 0, speed);
      // it comes to 40, where a STEP more takes SPEED
      int there = (40 + speed - 1) / speed;
      int want = 40 % speed == 0 ? there + 1 : there;
      due("RESTS by " + speed, x.rests(0, 0), want);
      due("where", x.rests(0, 1), 40);
      x.steps(want - 1);
      due("not ahead of it", x.ofGood(0, 9), 0);
      due("RESTS then", x.rests(0, 0), 1);
      x.steps(1);
      due("then", x.ofGood(0, 9), 1);
      due("RESTS at once", x.rests(0, 0), 0);
      due("where it is", x.rests(0, 1), 40);
    }
    NeckWorlds x = Probe.still(10, 0, 0);
    due("at once", x.rests(0, 0), 0);
    due("on the ground of SIDE 0", x.rests(0, 1), 0);
  }

  /** "the number of STEPS (0 to 100) behind which the GOOD is first on its ground, pushed by p now" */
  private static void overFrom0() {
    NeckWorlds x = Probe.still(10, 0, 0);
    for (int p = -9; p <= 9; p++) {
      due("there already, pushed by " + p, x.over(0, 0, p), 0);
      due("to the other ground by " + p, x.over(0, 1, p), p <= 0 ? NONE : (40 + p - 1) / p);
    }
    x.place(0, 40);
    for (int p = -9; p <= 9; p++) {
      due("there already, pushed by " + p, x.over(0, 1, p), 0);
      due("to the other ground by " + p, x.over(0, 0, p), p >= 0 ? NONE : (40 - p - 1) / -p);
    }
    // it comes there again and again: first counts
    x = Probe.world("18*(f<1)-9", 10, 9, 0);
    due("first", x.over(0, 0, 0), 1);
    due("SPEED as it is counts, too", x.over(0, 0, 9), 2);
    x.push(0, 9);
    due("held", x.over(0, 0, 9), x.over(0, 0, 0));
  }

  /** OVER "(0 to 100)" for SOONEST and LEAST: TEXTS found by search, where all p take so long */
  private static void soonestAndLeastBy100() {
    NeckWorlds x = Probe.world("(28-f)/3+177%(f+10)%2-6193%(f+17)%8", 10, 30, -7);
    int p = x.soonest(0, 1, 0);
    due("SOONEST behind 100", x.soonest(0, 1, 1), 100);
    due("by that p", x.over(0, 1, p), 100);
    due("LEAST, too", x.over(0, 1, x.least(0, 1)), 100);
    x = Probe.world("(14-f)/3+1172%(f+32)%3-7842%(f+56)%4", 60, 40, -8);
    for (int q = -9; q <= 9; q++) {
      due("none by 100", x.over(0, 0, q), NONE);
    }
    due("SOONEST: NONE", x.soonest(0, 0, 0), NONE);
    due("SOONEST: NONE", x.soonest(0, 0, 1), NONE);
    due("LEAST: NONE", x.least(0, 0), NONE);
    // a STEP later it is
    boolean isOver = false;
    for (int q = -9; q <= 9; q++) {
      x.place(0, 40);
      x.push(0, -8);
      x.push(0, q);
      isOver |= x.then(100, 0, 0) != 0 && x.then(101, 0, 0) == 0;
    }
    Probe.holds("behind 101 it is over", isOver);
  }

  /** "of all GOODS that rest in THE MIDDLE that which does so first; of several the least" */
  private static void firstBySoonestThenNumber() {
    NeckWorlds x = new NeckWorlds();
    Probe.text(x, 0, "0");
    // DRAG 1: SPEED s rests behind s STEPS, s*(s-1)/2 FLOORS on
    for (int g = 0; g < 8; g++) {
      x.good(1, 20);
      x.push(g, g == 7 ? 1 : g == 6 ? -1 : 3);
    }
    due("of several the least", x.first(), 6);
    x.push(6, -2);
    due("the soonest", x.first(), 7);
    x.push(7, 2);
    due("all alike", x.first(), 0);
    x.place(0, 25);
    due("one that rests beyond THE MIDDLE", x.first(), 1);
    x.place(1, 22);
    x.push(1, 3);
    due("one that comes to rest beyond THE MIDDLE", x.first(), 2);
    x.place(1, 13);
    x.push(1, 3);
    due("it rests at 16", x.first(), 1);
    x.place(1, 12);
    x.push(1, 3);
    due("it rests at 15", x.first(), 2);
    x.place(1, 27);
    x.push(1, -3);
    due("it rests at 24", x.first(), 1);
    x.place(1, 28);
    x.push(1, -3);
    due("it rests at 25", x.first(), 2);
  }

  /** RESTS "(0 to 200)" for FIRST, too: a TEXT found by search, by which it takes so long to rest at 21 */
  private static void firstBy200() {
    NeckWorlds x = Probe.world("(27-f)/3+(f>35)-4*(f=11)-6*(f=16)-f%19%6+2*(f=25)", 1, 22, -6);
    due("not by 200", x.first(), NONE);
    due("not by 200", x.rests(0, 0), NONE);
    due("not by 200", x.rests(0, 1), NONE);
    due("behind 201", x.steps(1), 0);
    due("by 200", x.first(), 0);
    due("by 200", x.rests(0, 0), 200);
    due("where", x.rests(0, 1), 21);
    due("it moves to its end", x.steps(199), 0);
    due("by 1", x.rests(0, 0), 1);
    due("it rests then", x.steps(1), 1);
    Probe.is("it rests then", x, 21, 0);
  }

  // ---- Terms 3: PUSHES of all sizes, LIFTS

  private static void pushes() {
    soonestOfAllPushes();
    leastOfAllPushes();
  }

  /** "of all p that with the least such number; of several that with the least size, then that below 0" */
  private static void soonestOfAllPushes() {
    int[] floors = {4, 5, 6, 7, 8, 9, 10};
    int[] behind = {1, 1, 1, 1, 1, 1, 2};
    int[] least = {4, 5, 6, 7, 8, 9, 5};
    for (int i = 0; i < floors.length; i++) {
      NeckWorlds x = Probe.still(10, floors[i], 0);
      due("SOONEST down", x.soonest(0, 0, 0), -least[i]);
      due("behind", x.soonest(0, 0, 1), behind[i]);
      x.place(0, 40 - floors[i]);
      due("SOONEST up", x.soonest(0, 1, 0), least[i]);
      due("behind", x.soonest(0, 1, 1), behind[i]);
    }
    NeckWorlds x = Probe.still(10, 20, 0);
    due("7, 8 and 9 are as soon", x.soonest(0, 1, 0), 7);
    due("7, 8 and 9 are as soon", x.soonest(0, 1, 1), 3);
    x.place(0, 18);
    due("9 alone is so soon", x.soonest(0, 0, 0), -9);
    due("9 alone is so soon", x.soonest(0, 0, 1), 2);
    x.push(0, -9);
    due("it is so soon anyway", x.soonest(0, 0, 0), 0);
    x.place(0, 18);
    x.push(0, -4);
    due("-5 more are enough", x.soonest(0, 0, 0), -5);
    due("turned around", x.soonest(0, 1, 0), 9);
    due("turned around", x.soonest(0, 1, 1), 5);
    // on a ground any p is as soon, and none is the least size
    x.place(0, 0);
    x.push(0, 9);
    due("there already", x.soonest(0, 0, 0), 0);
    due("there already", x.soonest(0, 0, 1), 0);
    // off 20 PULL brings all to 40, by 2 a STEP sooner than by -1 or 1
    x = Probe.world("40*!(f=20)", 10, 20, 0);
    due("of -1 and 1", x.over(0, 1, 1), 4);
    due("of -1 and 1", x.over(0, 1, -1), 4);
    due("the least number goes ahead of the least size", x.soonest(0, 1, 0), 2);
  }

  /** "LEAST: of all p by which it is OVER at all that of the least size; of two that below 0" */
  private static void leastOfAllPushes() {
    NeckWorlds x = Probe.still(1, 36, 0);
    // DRAG 1: p brings it p*(p-1)/2 FLOORS on
    int[] needs = {0, 2, 3, 3, 4, 4, 4, 5, 5, 5, 5, 6, 6};
    for (int off = 1; off < needs.length; off++) {
      x.place(0, 40 - off);
      due("LEAST up by " + off, x.least(0, 1), needs[off]);
      x.place(0, off);
      due("LEAST down by " + off, x.least(0, 0), -needs[off]);
    }
    x.place(0, 4);
    due("9 brings it 36 on", x.least(0, 1), 9);
    x.place(0, 3);
    due("9 doesn't bring it 37 on", x.least(0, 1), NONE);
    x.place(0, 36);
    due("-9 brings it 36 down", x.least(0, 0), -9);
    x.place(0, 37);
    due("-9 doesn't bring it 37 down", x.least(0, 0), NONE);
    for (int side = 0; side <= 1; side++) {
      x = Probe.world(side == 0 ? "0-9*!(f=20)" : "9*!(f=20)", 10, 20, 0);
      due("of -1 and 1", x.least(0, side), -1);
      x.push(0, 1);
      due("none is needed", x.least(0, side), 0);
    }
  }

  private static void lifts() {
    liftsAsManyAsCanBe();
    liftsOfSeveralTheFirst();
  }

  /** "paired, as many as can be, each at most once" */
  private static void liftsAsManyAsCanBe() {
    for (int low = 0; low <= 8; low++) {
      for (int high = 0; low + high <= 8; high++) {
        NeckWorlds x = new NeckWorlds();
        for (int i = 0; i < low; i++) {
          x.good(4, 0);
        }
        for (int i = 0; i < high; i++) {
          x.good(5, 40);
        }
        String of = low + " and " + high;
        int pairs = Math.min(low, high);
        due("pairs of " + of, x.lifts(-2), pairs);
        due("differences of " + of, x.lifts(-1), pairs);
        for (int i = 0; i < low; i++) {
          due("pair of " + i + " of " + of, x.lifts(i), i < pairs ? low + i : -1);
        }
        for (int i = 0; i < high; i++) {
          due("pair of " + (low + i) + " of " + of, x.lifts(low + i), i < pairs ? i : -1);
        }
      }
    }
    NeckWorlds x = new NeckWorlds();
    int[] floors = {0, 1, 39, 40};
    for (int floor : floors) {
      x.good(4, floor);
    }
    due("on the grounds, not beside them", x.lifts(-2), 1);
    due("beside it", x.lifts(1), -1);
    due("beside it", x.lifts(2), -1);
    due("on it", x.lifts(0), 3);
  }

  private static NeckWorlds lifting(int[] low, int[] high) {
    NeckWorlds x = new NeckWorlds();
    for (int load : low) {
      x.good(load - 1, 0);
    }
    for (int load : high) {
      x.good(load - 1, 40);
    }
    return x;
  }

  /** "of several such the first (by the GOODS of SIDE 0 in order: the less other GOOD; one without any last)" */
  private static void liftsOfSeveralTheFirst() {
    // LOADS of SIDE 0, LOADS of SIDE 1, the differences, the pairs of SIDE 0
    int[][][] all = {
      {row(3), row(2, 4), row(1), row(1)},
      {row(3), row(4, 2), row(1), row(1)},
      {row(3), row(5, 2), row(1), row(2)},
      {row(2, 4), row(3), row(1), row(2, -1)},
      {row(4, 2), row(3), row(1), row(2, -1)},
      {row(2, 3), row(3), row(0), row(-1, 2)},
      {row(1, 2), row(3, 4), row(4), row(2, 3)},
      {row(1, 2), row(4, 3), row(4), row(2, 3)},
      {row(1, 4), row(5, 2), row(2), row(3, 2)},
      {row(1, 4, 4), row(4, 2), row(1), row(4, 3, -1)},
      {row(5, 5, 5), row(5, 5), row(0), row(3, 4, -1)},
      {row(5, 5), row(5, 5, 5), row(0), row(2, 3)},
      {row(9, 1), row(5, 5, 1), row(4), row(2, 4)},
      {row(1, 9), row(5, 5, 1), row(4), row(4, 2)},
      {row(6, 3, 1), row(2, 5, 9), row(6), row(5, 4, 3)},
    };
    for (int i = 0; i < all.length; i++) {
      NeckWorlds x = lifting(all[i][0], all[i][1]);
      due("differences " + i, x.lifts(-1), all[i][2][0]);
      for (int g = 0; g < all[i][3].length; g++) {
        due("pair of " + g + " in " + i, x.lifts(g), all[i][3][g]);
        if (all[i][3][g] >= 0) {
          due("pair of its other one in " + i, x.lifts(all[i][3][g]), g);
        }
      }
    }
  }

  // ---- Terms 3: ODDS, STEPS by draws

  private static void odds() {
    oddsInLowestTerms();
    quakesAreHeld();
    oddsBehind50();
  }

  private static void fraction(String what, NeckWorlds x, int side, int n, int above, int below) {
    due(what + ", above", x.odds(0, side, n, 0), above);
    due(what + ", below", x.odds(0, side, n, 1), below);
  }

  /** "SPEED is 1 less, as it is, or 1 more .., as likely each"; "a fraction in lowest terms (0 is 0 by 1)" */
  private static void oddsInLowestTerms() {
    // the SPEED that is left brings it to a ground: of 3 to the n-th ways 1, 1, 3, 7, 19, 51 leave none
    int[] above = {0, 1, 1, 10, 31, 32};
    int[] below = {1, 3, 3, 27, 81, 81};
    NeckWorlds x = Probe.still(10, 20, 0);
    for (int n = 0; n <= 5; n++) {
      fraction("up by " + n, x, 1, n, above[n], below[n]);
      fraction("down by " + n, x, 0, n, above[n], below[n]);
    }
    for (int n = 0; n <= 5; n++) {
      fraction("held by REACH, never by " + n, Probe.world("9", 20, 35, 0), 1, n, 0, 1);
      fraction("pulled, sure by " + n, Probe.world("9", 10, 35, 0), 1, n, 1, 1);
      fraction("pulled, never by " + n, Probe.world("9", 10, 35, 0), 0, n, 0, 1);
    }
    // of the three SPEEDS on the ground of SIDE 0 one leaves it
    fraction("stays", Probe.still(10, 0, 0), 0, 1, 2, 3);
    fraction("leaves", Probe.still(10, 0, 0), 1, 1, 1, 3);
  }

  /** "SPEED is 1 less, as it is, or 1 more (held)" */
  private static void quakesAreHeld() {
    // 10 in place of 9, less PULL, would bring it to 29, whence it would be pulled up
    NeckWorlds x = Probe.world("9*(f>28)-9*!(f>28|f=20)-(f=20)", 10, 20, 9);
    fraction("held at 9", x, 1, 1, 0, 1);
    fraction("held at 9", x, 0, 1, 1, 1);
    x = Probe.world("9*(f>28)-9*!(f>28|f=20)", 10, 20, 8);
    fraction("9 is taken", x, 1, 1, 1, 3);
    x = Probe.world("9*!(f<12|f=20)-9*(f<12)+(f=20)", 10, 20, -9);
    fraction("held at -9", x, 0, 1, 0, 1);
    fraction("held at -9", x, 1, 1, 1, 1);
    x = Probe.world("9*!(f<12|f=20)-9*(f<12)", 10, 20, -8);
    fraction("-9 is taken", x, 0, 1, 1, 3);
  }

  /** "ahead of each of the next n (0 to 5) STEPS there is a QUAKE: ..; behind 50 STEPS from now" */
  private static void oddsBehind50() {
    // SPEED 1 comes to 40 behind 40 - floor STEPS; no QUAKE
    NeckWorlds x = Probe.still(10, 0, 1);
    fraction("behind 40", x, 1, 0, 1, 1);
    // 0 9 9 0, 0 9 9 0, ..: behind 50 STEPS it is where it is behind 2
    int[] isThere = {0, 1, 1, 0};
    x = Probe.world("18*(f<1)-9", 10, 0, 0);
    for (int step = 0; step < 4; step++) {
      due("behind 50 from " + step, x.then(50, 0, 0), isThere[step] == 1 ? 0 : 9);
      fraction("behind 50 from " + step, x, 0, 0, isThere[step], 1);
      x.steps(1);
    }
    // with a QUAKE, too: from 9 with SPEED 9 a QUAKE of -1 goes 8 0 9 9 0 .., the others 9 0 0 9 9 ..
    x = Probe.world("18*(f<1)-9", 10, 9, 9);
    fraction("behind 50, a QUAKE in the first", x, 0, 1, 1, 1);
    x.steps(1);
    x.place(0, 9);
    x.push(0, 9);
    due("alike, not by STEP", x.odds(0, 0, 1, 0), 1);
    // the QUAKE is ahead of the STEP: it counts in that STEP
    x = Probe.still(30, 40, 0);
    fraction("GAS drags a QUAKE away", x, 1, 5, 1, 1);
    x = Probe.still(30, 39, 2);
    fraction("3 less 2 brings it there", x, 1, 1, 1, 3);
    x = Probe.still(50, 35, 3);
    fraction("4, then 3: 3 and 2", x, 1, 1, 1, 3);
  }

  private static void draws() {
    drawsByNumbers();
    drawsOfAnyZ();
  }

  private static int next(int z) {
    return (int) (z * 1103515245L + 12345L);
  }

  private static int quake(int z) {
    return (int) ((z & 0xffffffffL) / 256 % 3) - 1;
  }

  /** "Ahead of each STEP, for each GOOD by numbers a draw: a QUAKE by its rest by 3, less 1" */
  private static void drawsByNumbers() {
    for (int goods = 0; goods <= 8; goods++) {
      NeckWorlds x = new NeckWorlds();
      Probe.text(x, 0, "0");
      int z = 1;
      int[] speeds = new int[goods];
      for (int g = 0; g < goods; g++) {
        x.good(10, 20);
      }
      for (int t = 0; t < 4; t++) {
        x.loose(1);
        for (int g = 0; g < goods; g++) {
          z = next(z);
          speeds[g] += quake(z);
          due("QUAKE " + t + " of " + g, x.ofGood(g, 3), speeds[g]);
        }
        due("z", x.count(10), z);
      }
      x.loose(200);
      for (int i = 0; i < 200 * goods; i++) {
        z = next(z);
      }
      due("z behind 200 STEPS", x.count(10), z);
      x.steps(200);
      due("no draws in steps()", x.count(10), z);
      due("STEP", x.count(1), 404);
    }
  }

  /** "z is told ..; each makes it z * 1103515245 + 12345 (an int), and gives z >>> 8"; "seed: z becomes v" */
  private static void drawsOfAnyZ() {
    int was = 1;
    NeckWorlds x = Probe.still(10, 20, 0);
    for (int z : new int[] {0, 1, -1, 2, -2, MAX, MIN, MAX - 1, MIN + 1, 1 << 30, 255, 256, -256, 12345, -1000000001}) {
      due("z that was", x.seed(z), was);
      due("z", x.count(10), z);
      x.place(0, 20);
      x.loose(1);
      Probe.is("QUAKE by " + z, x, 20 + quake(next(z)), quake(next(z)));
      due("z then", x.count(10), next(z));
      was = next(z);
    }
    // QUAKES are held: at 9 there is none up, at -9 none down
    for (int speed = -9; speed <= 9; speed += 18) {
      for (int z = 0; z < 9; z++) {
        x = Probe.world(speed > 0 ? "0-5" : "5", 10, 20, speed);
        x.seed(z);
        x.loose(1);
        int q = quake(next(z));
        int held = Math.max(-9, Math.min(9, speed + q)) + (speed > 0 ? -5 : 5);
        Probe.is("QUAKE of " + speed + " by " + z, x, 20 + held, held);
      }
    }
  }

  // ---- Terms 3: VOICES

  private static void voices() {
    voicesOfAllKinds();
    traceOfAllKinds();
    traceOfTheLatest();
  }

  private static int floats(int kind, int x, int n) {
    return kind == 3 || kind == 5 ? (x + n) * 3 : x + n;
  }

  private static int falls(int kind, int x, int n, int m) {
    int stone = (x + n) * 2 - (1 - m);
    return kind == 1 ? stone : kind == 6 ? stone + 2 : floats(kind, x, n) * 2;
  }

  private static int hangs(int kind, int x, int n, int m) {
    return kind == 2 ? m - x : kind == 4 ? (m - x) ^ n : x - m;
  }

  private static int tells(int kind, int x, int n, int m) {
    int both = falls(kind, x, n, m) ^ hangs(kind, x, n, m);
    return kind == 4 ? falls(kind, x, n, m) - both : kind == 5 ? both - (2 + n) * 3 : both;
  }

  /** "VOICES of a GOOD, with a number x (ints that go round); n is the number, m as told" */
  private static void voicesOfAllKinds() {
    int[] xs = {0, 1, -1, 7, 1000, MAX, MIN, MAX - 8, MIN + 9, 1 << 30, -1000000001};
    for (int km = 0; km <= 69; km++) {
      NeckWorlds w = new NeckWorlds();
      for (int i = 0; i < km % 8; i++) {
        w.good(69 - km, 40);
      }
      int n = w.good(km, 0);
      int kind = km / 10;
      int m = km % 10;
      for (int x : xs) {
        due("floats of " + km + " by " + x, w.voice(n, 0, x), floats(kind, x, n));
        due("falls of " + km + " by " + x, w.voice(n, 1, x), falls(kind, x, n, m));
        due("hangs of " + km + " by " + x, w.voice(n, 2, x), hangs(kind, x, n, m));
        due("tells of " + km + " by " + x, w.voice(n, 3, x), tells(kind, x, n, m));
      }
    }
  }

  /** "the numbers of BODIES of the latest voice(), as they began (what stands left is worked out first)" */
  private static void traceOfAllKinds() {
    int[][][] traces = {
      {row(10), row(11, 10), row(12), row(13, 11, 10, 12)},
      {row(10), row(20, 11, 10, 12), row(12), row(13, 20, 11, 10, 12, 12)},
      {row(10), row(11, 10), row(30, 12), row(13, 11, 10, 30, 12)},
      {row(40, 10), row(11, 40, 10), row(12), row(13, 11, 40, 10, 12)},
      {row(10), row(11, 10), row(50, 30, 12), row(51, 11, 10, 13, 11, 10, 50, 30, 12)},
      {row(40, 10), row(11, 40, 10), row(12), row(60, 13, 11, 40, 10, 12, 40, 10)},
      {row(10), row(70, 20, 11, 10, 12), row(12), row(13, 70, 20, 11, 10, 12, 12)},
    };
    for (int kind = 0; kind <= 6; kind++) {
      NeckWorlds x = new NeckWorlds();
      x.good(10 * kind, 0);
      for (int act = 0; act <= 3; act++) {
        x.voice(0, act, act);
        int[] want = traces[kind][act];
        due("BODIES of " + kind + " " + act, x.count(9), want.length);
        for (int i = 0; i < want.length; i++) {
          due("TRACE of " + kind + " " + act + ", " + i, x.trace(i), want[i]);
        }
        due("none behind it", x.trace(want.length), NONE);
        due("none ahead of it", x.trace(-1), NONE);
      }
    }
  }

  private static void traceOfTheLatest() {
    NeckWorlds x = new NeckWorlds();
    due("none at first", x.trace(0), NONE);
    due("none at first", x.count(9), 0);
    x.good(40, 0);
    x.voice(0, 3, 0);
    due("the longest", x.count(9), 9);
    due("refused", x.voice(0, 4, 0), BEYOND);
    due("refused", x.voice(1, 0, 0), BEYOND);
    due("it stays", x.count(9), 9);
    x.become(0, 0);
    x.place(0, 3);
    x.image();
    x.steps(3);
    x.restore();
    due("it stays", x.trace(8), 12);
    x.voice(0, 0, 0);
    due("a shorter one", x.count(9), 1);
    due("nothing is left of the longer", x.trace(1), NONE);
  }
}
