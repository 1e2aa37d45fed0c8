/**
 * Terms 4 and the promises on SHEETS, IMAGES and what is told, read sentence by sentence:
 * each that names a bound has a test of its own, with its words at its head.
 * What is refused, and what that leaves as it is, is RefusedTest's.
 */
public final class SheetsTest {
  private static final int BEYOND = Probe.BEYOND;
  private static final int NONE = Probe.NONE;
  private static final int STATE = Probe.STATE;
  private static final int FULL = Probe.FULL;
  private static final int MIN = Integer.MIN_VALUE;
  private static final int MAX = Integer.MAX_VALUE;

  private static void due(String what, long got, long want) {
    Probe.due(what, got, want);
  }

  public static void main(String[] args) {
    sheets();
    images();
    counts();
    calls();
    Probe.end("SheetsTest");
  }

  // ---- Terms 4: SHEETS; ROLLED, WHOSE, pushes and judge by them

  private static void sheets() {
    sheetsMissingAtFirst();
    sheetsOfUpTo40();
    lowestBits();
    movesAsTheyAllWere();
    rolledFromMinus9To9();
    rolledBy40();
    whoseLeastKind();
    pushesUpToTheFirst();
    judgesLacksAndTooMany();
  }

  /** "SHEETS 0 .. 3 are rows .., or missing (as at first)"; "0: it is missing, n doesn't matter" */
  private static void sheetsMissingAtFirst() {
    NeckWorlds x = new NeckWorlds();
    for (int s = 0; s < 4; s++) {
      due("missing", x.judge(s), NONE);
      due("missing", x.pushes(s), NONE);
      due("missing", x.put(s, 0, 0), NONE);
    }
    for (int s = 0; s < 4; s++) {
      due("a SHEET", x.sheet(s, 8 << s % 3, s), 1);
      for (int t = 0; t < 4; t++) {
        due("that alone", x.pushes(t), t <= s ? 0 : NONE);
      }
    }
    for (int n : new int[] {0, 1, 40, 41, -1, MIN, MAX}) {
      due("a SHEET", x.sheet(2, 8, 3), 1);
      due("of 0 bits", x.sheet(2, 0, n), 1);
      due("missing then", x.judge(2), NONE);
      due("missing still", x.sheet(2, 0, n), 1);
      due("the others stay", x.judge(1), 0);
    }
  }

  /** "rows of 8, 16, 32 bits, at most 40 numbers"; "n numbers, all 0" */
  private static void sheetsOfUpTo40() {
    for (int bits = 8; bits <= 32; bits *= 2) {
      NeckWorlds x = new NeckWorlds();
      for (int n : new int[] {0, 1, 39, 40}) {
        due("n numbers", x.sheet(3, bits, n), 1);
        due("the last", x.put(3, n - 1, 7), n == 0 ? BEYOND : 1);
        due("none behind it", x.put(3, n, 7), BEYOND);
        due("the first", x.put(3, 0, 7), n == 0 ? BEYOND : 1);
        due("none ahead of it", x.put(3, -1, 7), BEYOND);
      }
      due("41", x.sheet(3, bits, 41), BEYOND);
      due("the one ahead stays", x.put(3, 39, 7), 1);
      due("-1", x.sheet(3, bits, -1), STATE);
      due("the one ahead stays", x.put(3, 39, 7), 1);
      // all of them were put, so all must be made 0 again; a GOOD stands on 0
      for (int i = 0; i < 40; i++) {
        x.put(3, i, 5);
      }
      x.sheet(3, bits, 40);
      x.good(10, 20);
      for (int i = 0; i < 40; i++) {
        due("all 0", x.move(3, i, 3, 0, 1), 1);
        due("a PUSH of 0", x.pushes(3), 1);
      }
      due("all 0", x.ofGood(0, 3), 0);
    }
  }

  /** "becomes v (its lowest bits)" */
  private static void lowestBits() {
    NeckWorlds x = new NeckWorlds();
    x.good(10, 20);
    int[] bits = {8, 16, 32};
    int[] vs = {9, -9, 0x109, 0x10009, -256 - 9, -65536 - 9, 0xF7, 0xFFF7, 10, -10, 0x89, 0x8009, 0x80000009};
    // the PUSH that it is then, by bits; 99: it is none
    int[][] wants = {
      {9, -9, 9, 9, -9, -9, -9, -9, 99, 99, 99, 9, 9},
      {9, -9, 99, 9, 99, -9, 99, -9, 99, 99, 99, 99, 9},
      {9, -9, 99, 99, 99, 99, 99, 99, 99, 99, 99, 99, 99},
    };
    for (int b = 0; b < 3; b++) {
      x.sheet(b, bits[b], 1);
      for (int i = 0; i < vs.length; i++) {
        x.place(0, 20);
        due("put", x.put(b, 0, vs[i]), 1);
        due(vs[i] + " in " + bits[b] + " bits", x.pushes(b), wants[b][i] == 99 ? 0 : 1);
        due(vs[i] + " in " + bits[b] + " bits", x.ofGood(0, 3), wants[b][i] == 99 ? 0 : wants[b][i]);
      }
    }
  }

  /** "n numbers of a SHEET .. come to another one (or the same) .., as they all were: n" */
  private static void movesAsTheyAllWere() {
    for (int from = 0; from <= 3; from++) {
      for (int to = 0; to <= 3; to++) {
        NeckWorlds x = new NeckWorlds();
        Probe.fill(x, 0, 8, 11, 12, 13, 14, 15, 16, 17, 18);
        int[] want = {11, 12, 13, 14, 15, 16, 17, 18};
        for (int i = 0; i < 5; i++) {
          want[to + i] = 11 + from + i;
        }
        due("within one", x.move(0, from, 0, to, 5), 5);
        for (int f : want) {
          x.good(0, f);
        }
        due("from " + from + " to " + to, x.judge(0), -1);
      }
    }
    for (int bits = 8; bits <= 32; bits *= 2) {
      NeckWorlds x = new NeckWorlds();
      x.sheet(0, bits, 40);
      x.sheet(3, bits, 40);
      for (int i = 0; i < 40; i++) {
        x.put(0, i, i % 8);
      }
      due("all 40", x.move(0, 0, 3, 0, 40), 40);
      for (int i = 0; i < 8; i++) {
        x.good(0, i);
      }
      due("they came", x.judge(3), 8);
      due("the first stays", x.judge(0), 8);
      due("the last 8", x.move(3, 32, 3, 0, 8), 8);
      due("they came", x.judge(3), 8);
      due("one more", x.move(0, 0, 3, 0, 41), BEYOND);
      due("none", x.move(0, 40, 3, 40, 0), 0);
    }
  }

  /** "SPEEDS (-9 to 9) with which it is so now: the least, how many" */
  private static void rolledFromMinus9To9() {
    NeckWorlds x = Probe.still(10, 20, 4);
    for (int speed = -10; speed <= 10; speed++) {
      Probe.fill(x, 0, 8, 20 + speed);
      boolean isOne = speed >= -9 && speed <= 9;
      due("ROLLED by " + speed, x.rolled(0, 0, 0), isOne ? speed : NONE);
      due("how many", x.rolled(0, 0, 1), isOne ? 1 : NONE);
    }
    for (int off = 0; off <= 9; off++) {
      x.place(0, off);
      Probe.fill(x, 0, 16, 0);
      due("to 0 from " + off, x.rolled(0, 0, 0), -9);
      due("how many", x.rolled(0, 0, 1), 10 - off);
      x.place(0, 40 - off);
      Probe.fill(x, 0, 32, 40);
      due("to 40 from " + (40 - off), x.rolled(0, 0, 0), off);
      due("how many", x.rolled(0, 0, 1), 10 - off);
    }
    // "behind 1, 2, .. STEPS": not now
    x.place(0, 20);
    Probe.fill(x, 0, 8, 20, 20);
    due("stays", x.rolled(0, 0, 0), 0);
    Probe.fill(x, 0, 8, 21, 22);
    due("by 1", x.rolled(0, 0, 0), 1);
    Probe.fill(x, 0, 8, 21, 23);
    due("by none", x.rolled(0, 0, 0), NONE);
  }

  /** A SHEET of no numbers tells nothing that isn't so; one of 40 is read to its end */
  private static void rolledBy40() {
    NeckWorlds x = Probe.still(10, 20, 0);
    x.sheet(1, 8, 0);
    due("no numbers", x.rolled(0, 1, 0), -9);
    due("no numbers", x.rolled(0, 1, 1), 19);
    due("no numbers", x.whose(0, 1), 0);
    x.sheet(0, 8, 40);
    for (int i = 0; i < 40; i++) {
      x.put(0, i, 20);
    }
    due("40 numbers", x.rolled(0, 0, 0), 0);
    due("40 numbers", x.rolled(0, 0, 1), 1);
    due("40 numbers", x.whose(0, 0), 0);
    x.put(0, 39, 21);
    due("the last isn't so", x.rolled(0, 0, 0), NONE);
    due("the last isn't so", x.rolled(0, 0, 1), NONE);
    due("the last isn't so", x.whose(0, 0), NONE);
    x.put(0, 39, 20);
    x.put(0, 0, 21);
    due("the first isn't so", x.rolled(0, 0, 0), NONE);
    due("the first isn't so", x.whose(0, 0), NONE);
  }

  /** "WHOSE: the least KIND as which, with its m, it is so" */
  private static void whoseLeastKind() {
    // at 20 with SPEED 9, no PULL; by m 0 and 1
    int[][] at = {{29, 22, 27, 21, 28}, {28, 29, 23, 27, 21}};
    int[][] whose = {{0, 2, 3, 4, 5}, {0, 1, 2, 3, 4}};
    for (int m = 0; m <= 1; m++) {
      for (int as = 0; as <= 6; as++) {
        NeckWorlds x = Probe.still(10 * as + m, 20, 9);
        for (int i = 0; i < at[m].length; i++) {
          Probe.fill(x, 2, 8, at[m][i]);
          due("WHOSE " + at[m][i] + " with m " + m, x.whose(0, 2), whose[m][i]);
        }
        Probe.fill(x, 2, 8, 30);
        due("of none", x.whose(0, 2), NONE);
      }
    }
    NeckWorlds x = Probe.world("1", 0, 20, 0);
    Probe.fill(x, 2, 8, 22);
    due("an ANVIL", x.whose(0, 2), 6);
    Probe.fill(x, 2, 8, 21, 23);
    due("a GOOD, no STONE", x.whose(0, 2), 0);
    Probe.fill(x, 2, 8, 21, 22);
    due("ROPED, by its HOME", x.whose(0, 2), 2);
    Probe.fill(x, 2, 8, 21, 21);
    due("a PRISONER, by its HOME", x.whose(0, 2), 4);
    Probe.fill(x, 2, 8, 20);
    due("GAS ahead of WATER", x.whose(0, 2), 3);
  }

  /** "how many, up to the first that is not -9 to 9 (no ERROR then), or for which there is no GOOD" */
  private static void pushesUpToTheFirst() {
    for (int goods = 0; goods <= 8; goods++) {
      for (int n = 0; n <= 10; n++) {
        NeckWorlds x = new NeckWorlds();
        for (int i = 0; i < goods; i++) {
          x.good(0, 20);
        }
        x.sheet(0, 8, n);
        for (int i = 0; i < n; i++) {
          x.put(0, i, i % 2 == 0 ? 9 : -9);
        }
        due(n + " PUSHES of " + goods, x.pushes(0), Math.min(n, goods));
        for (int i = 0; i < goods; i++) {
          due("SPEED of " + i, x.ofGood(i, 3), i >= n ? 0 : i % 2 == 0 ? 9 : -9);
        }
      }
    }
    for (int bad : new int[] {10, -10, 127, -128}) {
      for (int at = 0; at < 4; at++) {
        NeckWorlds x = new NeckWorlds();
        for (int i = 0; i < 4; i++) {
          x.good(0, 20);
        }
        Probe.fill(x, 1, 8, 2, 2, 2, 2);
        x.put(1, at, bad);
        due(bad + " in place " + at, x.pushes(1), at);
        for (int i = 0; i < 4; i++) {
          due("SPEED of " + i, x.ofGood(i, 3), i < at ? 2 : 0);
        }
        due("no ERROR", Stage.told(x).equals("0 0 0 0 0 ") ? 1 : 0, 1);
      }
    }
  }

  /** "the first that isn't so (one that lacks, or is too many, too); -1: all are" */
  private static void judgesLacksAndTooMany() {
    for (int goods = 0; goods <= 8; goods++) {
      for (int n = 0; n <= 10; n++) {
        NeckWorlds x = new NeckWorlds();
        x.sheet(0, 32, n);
        for (int i = 0; i < goods; i++) {
          x.good(0, 40 - i);
        }
        for (int i = 0; i < n; i++) {
          x.put(0, i, i < goods ? 40 - i : 0);
        }
        due(n + " numbers of " + goods, x.judge(0), n == goods ? -1 : Math.min(n, goods));
        for (int i = 0; i < Math.min(n, goods); i++) {
          x.put(0, i, 39 - i);
          due("the first that isn't so", x.judge(0), i);
          x.put(0, i, 40 - i);
        }
      }
    }
  }

  // ---- IMAGES, what waits, what is counted

  private static void images() {
    imageOfAll();
    imageInPlaceOfOneAhead();
    imageOfNothing();
  }

  /** "All (but SHEETS, THE TRACE, what told() tells, and how often this was done) is kept as an IMAGE" */
  private static void imageOfAll() {
    for (Stage stage : Stage.all()) {
      NeckWorlds x = stage.make();
      NeckWorlds y = stage.make();
      x.image();
      y.image();
      x.good(12, 5);
      for (int g = 0; g < 8; g++) {
        x.become(g, 7 * g + 1);
        x.place(g, 20 + g);
        x.push(g, g);
      }
      x.set(0, 13);
      x.set(1, 8);
      x.set(2, 8);
      x.text(0);
      Probe.text(x, 0, "m-2");
      Probe.text(x, 1, "3-l");
      Probe.tape(x, "9+9");
      x.check();
      x.tell(3);
      x.seed(4);
      x.loose(3);
      x.steps(1);
      x.off(0, 1, 1);
      x.as(0, 7);
      x.trace(40);
      int step = y.count(1);
      String told = Stage.told(x);
      due(stage.name + ": restore", x.restore(), step);
      due(stage.name + ": the same", x.count(1), step);
      due(stage.name + ": twice", x.restore(), step);
      Probe.holds(stage.name + ": told() stays", Stage.told(x).equals(told));
      Probe.holds(stage.name + ": all is as the IMAGE has it", stage.look(x).equals(stage.look(y)));
    }
  }

  /** "in place of one ahead: how often that was done"; "which stays" */
  private static void imageInPlaceOfOneAhead() {
    NeckWorlds x = new NeckWorlds();
    due("none", x.restore(), NONE);
    for (int i = 1; i <= 20; i++) {
      due("how often", x.image(), i);
      x.steps(i);
      due("the latest", x.restore(), x.count(1));
      x.steps(1);
      due("it stays", x.restore(), x.count(1));
      x.good(0, 0);
      due("as many as then", x.restore(), i - 1);
      due("GOODS as then", x.count(0), 0);
      x.steps(1);
    }
    due("how often isn't kept", x.image(), 21);
  }

  private static void imageOfNothing() {
    NeckWorlds x = new NeckWorlds();
    due("once", x.image(), 1);
    due("STEP", x.restore(), 0);
    x.good(11, 3);
    x.sheet(0, 8, 1);
    x.put(0, 0, 3);
    x.voice(0, 0, 0);
    x.first();
    int nones = x.told(2);
    due("STEP", x.restore(), 0);
    due("no GOODS", x.count(0), 0);
    due("SHEETS stay", x.judge(0), 0);
    x.good(11, 3);
    due("SHEETS stay as they are", x.judge(0), -1);
    due("THE TRACE stays", x.trace(0), 10);
    due("told() stays", x.told(2), nones);
    due("how often stays", x.image(), 2);
  }

  private static void counts() {
    waitingUpTo20();
    checksEachPlace();
    countsEachBound();
    toldOfEach();
  }

  /** "One more number waits: how many. FULL: 20 wait." */
  private static void waitingUpTo20() {
    NeckWorlds x = new NeckWorlds();
    for (int round = 0; round < 3; round++) {
      for (int i = 1; i <= 20; i++) {
        due("how many", x.tell(0), i);
        due("they wait", x.count(8), i);
      }
      due("a twenty-first", x.tell(0), FULL);
      due("20 wait", x.count(8), 20);
      due("all are so", x.check(), 0);
      due("none do then", x.count(8), 0);
      due("none wait", x.check(), 0);
    }
    due("told", x.told(4), 3);
    for (int v : new int[] {MIN, -1, 1, MAX, -1000000001}) {
      due("any number waits", x.tell(v), 1);
      due("which isn't so", x.check(), 1);
    }
  }

  /** "FLOORS of all GOODS together behind 1, 2, .. STEPS: 0; else 1 and the place (from 0) of the first that isn't so" */
  private static void checksEachPlace() {
    for (int wrong = 0; wrong <= 20; wrong++) {
      NeckWorlds x = Probe.still(10, 0, 1);
      x.good(10, 40);
      for (int i = 0; i < 20; i++) {
        x.tell(41 + i + (i == wrong ? 1 : 0));
      }
      due("the first that isn't so", x.check(), wrong == 20 ? 0 : wrong + 1);
      due("none wait then", x.count(8), 0);
      due("only thought", x.count(1), 0);
      Probe.is("only thought", x, 0, 1);
    }
    NeckWorlds x = Probe.still(10, 40, 0);
    for (int i = 1; i < 8; i++) {
      x.good(10, 40);
    }
    x.tell(320);
    due("all 8 together", x.check(), 0);
    x.tell(320);
    x.tell(321);
    x.tell(0);
    due("the first of two", x.check(), 2);
  }

  /** "0 GOODS, 1 STEP, .. 10 z (any number). BEYOND." */
  private static void countsEachBound() {
    NeckWorlds x = Stage.full().make();
    int[] want = {8, 9999, x.count(2), 0, 0, 0, 0, 50, 20, 9, x.count(10)};
    for (int g = 0; g < 8; g++) {
      int floor = x.ofGood(g, 2);
      want[3] += floor == 0 ? 1 : 0;
      want[4] += floor == 40 ? 1 : 0;
      want[5] += floor >= 16 && floor <= 24 ? 1 : 0;
      want[6] += x.ofGood(g, 9);
    }
    for (int what = 0; what <= 10; what++) {
      due("count " + what, x.count(what), want[what]);
    }
    due("beyond", x.count(11), BEYOND);
    due("beyond", x.count(-1), BEYOND);
    for (int g = 0; g < 8; g++) {
      x.become(g, 10);
      x.place(g, 0);
    }
    due("all on the ground of SIDE 0", x.count(3), 8);
    due("none on that of SIDE 1", x.count(4), 0);
    for (int g = 0; g < 8; g++) {
      x.place(g, 40);
    }
    due("all on the ground of SIDE 1", x.count(4), 8);
    for (int g = 0; g < 8; g++) {
      x.place(g, 16 + g);
    }
    due("all in THE MIDDLE", x.count(5), 8);
    Probe.text(x, 0, "9");
    due("none AT REST", x.count(6), 0);
  }

  /** "How many acts have answered an ERROR LOW - k (k 1 .. 5); BEYOND: another k (counted, too)" */
  private static void toldOfEach() {
    NeckWorlds x = new NeckWorlds();
    for (int i = 0; i < 8; i++) {
      x.good(0, i);
    }
    for (int times = 1; times <= 9; times++) {
      x.ofGood(8, 0);
      x.restore();
      x.off(0, 1, 0);
      x.good(0, 0);
      x.as(0, 1);
      for (int k = 1; k <= 5; k++) {
        due("told(" + k + ")", x.told(k), times + (k == 1 ? 2 * times - 2 : 0));
      }
      due("another k", x.told(0), BEYOND);
      due("another k", x.told(6), BEYOND);
      due("counted, too", x.told(1), 3 * times);
    }
  }

  // ---- "An object is used for at most 512 calls"

  private static void calls() {
    NeckWorlds x = new NeckWorlds();
    for (int i = 0; i < 511; i++) {
      x.first();
    }
    due("511 calls, then one", x.told(2), 511);
    x = new NeckWorlds();
    for (int i = 1; i <= 512; i++) {
      due("image", x.image(), i);
    }
    x = new NeckWorlds();
    for (int i = 0; i < 256; i++) {
      x.feed('0' + i % 10, 1);
      due("text", x.text(1), 1);
    }
    x = new NeckWorlds();
    for (int i = 0; i < 170; i++) {
      x.tell(i % 2);
      due("what waits", x.check(), i % 2);
      due("sheet", x.sheet(i % 4, 8, i % 41), 1);
    }
    x = new NeckWorlds();
    x.good(40, 0);
    for (int i = 0; i < 255; i++) {
      due("voice", x.voice(0, 2, i), -i);
      due("TRACE", x.count(9), 3);
    }
  }
}
