/**
 * The document read sentence by sentence: each that names a bound has a test of its own here, named
 * behind its words. What is refused, and what that leaves as it is, is RefusedTest's.
 */
public final class BoundsTest {
  private static final int BEYOND = Probe.BEYOND;
  private static final int NONE = Probe.NONE;
  private static final int STATE = Probe.STATE;
  private static final int FULL = Probe.FULL;
  private static final int MIN = Integer.MIN_VALUE;
  private static final int MAX = Integer.MAX_VALUE;

  private static void due(String what, long got, long want) {
    Probe.due(what, got, want);
  }

  public static void main(String[] args) {
    goods();
    kinds();
    steps();
    takings();
    doors();
    texts();
    rests();
    pushes();
    lifts();
    sheets();
    odds();
    draws();
    voices();
    images();
    counts();
    calls();
    Probe.end("BoundsTest");
  }

  /** A world without PULL with one of the GOODS in it. */
  private static NeckWorlds still(int km, int floor, int speed) {
    return world("0", km, floor, speed);
  }

  private static NeckWorlds world(String pull, int km, int floor, int speed) {
    NeckWorlds x = new NeckWorlds();
    due("reads " + pull, Probe.text(x, 0, pull), 1);
    x.good(km, floor);
    x.push(0, speed);
    return x;
  }

  private static void is(String what, NeckWorlds x, int floor, int speed) {
    due(what + ": FLOOR", x.ofGood(0, 2), floor);
    due(what + ": SPEED", x.ofGood(0, 3), speed);
  }

  // ---- Terms 1: FLOORS, GOODS, KINDS

  private static void goods() {
    goodsAtMostEight();
    goodsOfAllKindsAndNumbers();
    floorsFromGroundToGround();
    middleFrom16To24();
    speedAndHomeAtFirst();
    pushesAreHeld();
    pushesOffAreHeld();
    becomesAtItsBounds();
    twoObjectsAreTwo();
  }

  /** "GOODS 0, 1, .. (at most 8)"; "its number"; "FULL" */
  private static void goodsAtMostEight() {
    NeckWorlds x = new NeckWorlds();
    for (int i = 0; i < 8; i++) {
      due("its number", x.good(9 * i, 5 * i), i);
      due("how many", x.count(0), i + 1);
    }
    due("a ninth", x.good(0, 0), FULL);
    due("the eighth is one", x.ofGood(7, 2), 35);
    due("there is no ninth", x.ofGood(8, 2), BEYOND);
    due("an eighth is pushed", x.push(7, 3), 3);
  }

  /** "of KINDS: 0 GOOD; .. 6 ANVIL"; "with a number m (0 to 9)"; "km: 10 times the KIND, and m" */
  private static void goodsOfAllKindsAndNumbers() {
    for (int km = 0; km <= 69; km++) {
      NeckWorlds x = new NeckWorlds();
      due("good " + km, x.good(km, 40), 0);
      due("KIND of " + km, x.ofGood(0, 0), km / 10);
      due("m of " + km, x.ofGood(0, 1), km % 10);
      due("as its KIND, m of " + km, x.as(0, km / 10), km % 10);
    }
  }

  /** "FLOORS are 0 (the ground of SIDE 0) to 40 (the ground of SIDE 1)" */
  private static void floorsFromGroundToGround() {
    NeckWorlds x = new NeckWorlds();
    x.good(0, 7);
    int was = 7;
    for (int floor = 0; floor <= 40; floor++) {
      due("place: where it was", x.place(0, floor), was);
      due("place: FLOOR", x.ofGood(0, 2), floor);
      due("place: HOME, too", x.ofGood(0, 4), floor);
      due("the ground of SIDE 0", x.count(3), floor == 0 ? 1 : 0);
      due("the ground of SIDE 1", x.count(4), floor == 40 ? 1 : 0);
      was = floor;
    }
  }

  /** "16 to 24 are THE MIDDLE" */
  private static void middleFrom16To24() {
    NeckWorlds x = still(0, 0, 0);
    for (int floor = 0; floor <= 40; floor++) {
      x.place(0, floor);
      boolean isMiddle = floor >= 16 && floor <= 24;
      due("THE MIDDLE at " + floor, x.count(5), isMiddle ? 1 : 0);
      due("FIRST at " + floor, x.first(), isMiddle ? 0 : NONE);
    }
  }

  /** "a SPEED (.. 0 at first) and a HOME (the FLOOR at which it was put)"; "SPEED 0" of place */
  private static void speedAndHomeAtFirst() {
    NeckWorlds x = still(25, 30, 9);
    x.steps(1);
    is("held by REACH", x, 37, 0);
    due("HOME isn't where it went", x.ofGood(0, 4), 30);
    x.push(0, -4);
    due("place where it is", x.place(0, 37), 37);
    is("put again", x, 37, 0);
    due("HOME is new", x.ofGood(0, 4), 37);
    x.good(25, 1);
    due("SPEED at first", x.ofGood(1, 3), 0);
    due("HOME at first", x.ofGood(1, 4), 1);
    x.push(0, -9);
    x.steps(1);
    is("REACH of the new HOME", x, 30, 0);
  }

  /** "A PUSH of p (-9 to 9): SPEED is more by p (held)": -9 to 9 from each SPEED */
  private static void pushesAreHeld() {
    for (int speed = -9; speed <= 9; speed++) {
      for (int p = -9; p <= 9; p++) {
        NeckWorlds x = new NeckWorlds();
        x.good(0, 20);
        due("pushed from 0", x.push(0, speed), speed);
        due("pushed by " + p, x.push(0, p), Math.max(-9, Math.min(9, speed + p)));
        is("SPEED then", x, 20, Math.max(-9, Math.min(9, speed + p)));
      }
    }
  }

  /** "a PUSH of p for one, of 0 less p for the other: SPEED of the one then" */
  private static void pushesOffAreHeld() {
    for (int p = -9; p <= 9; p++) {
      NeckWorlds x = new NeckWorlds();
      x.good(60, 40);
      x.good(3, 40);
      x.push(0, 5);
      x.push(1, -5);
      due("off by " + p, x.off(0, 1, p), Math.max(-9, Math.min(9, 5 + p)));
      due("the other by " + -p, x.ofGood(1, 3), Math.max(-9, Math.min(9, -5 - p)));
      due("on its FLOOR", x.ofGood(1, 2), 40);
    }
    NeckWorlds x = new NeckWorlds();
    x.good(0, 20);
    x.good(0, 21);
    due("a FLOOR apart", x.off(0, 1, 0), STATE);
    due("a FLOOR apart", x.off(1, 0, 0), STATE);
    due("and itself", x.off(1, 1, 0), BEYOND);
    // unlike are two of unlike numbers, be they alike in all else
    x.place(1, 20);
    due("on one FLOOR", x.off(1, 0, 2), 2);
    due("the other", x.ofGood(0, 3), -2);
  }

  /** "A GOOD becomes one of a KIND, with m (km; FLOOR, SPEED, HOME stay): the KIND that it was" */
  private static void becomesAtItsBounds() {
    NeckWorlds x = new NeckWorlds();
    x.good(0, 40);
    x.push(0, -9);
    int was = 0;
    for (int km : new int[] {0, 9, 10, 19, 20, 29, 30, 39, 40, 49, 50, 59, 60, 69, 0}) {
      due("the KIND that it was", x.become(0, km), was);
      due("KIND", x.ofGood(0, 0), km / 10);
      due("m", x.ofGood(0, 1), km % 10);
      is("it stays", x, 40, -9);
      due("HOME stays", x.ofGood(0, 4), 40);
      was = km / 10;
    }
    due("no other is made", x.count(0), 1);
  }

  /** "A new object: All as at first; no GOODS", whatever others do */
  private static void twoObjectsAreTwo() {
    NeckWorlds one = new NeckWorlds();
    NeckWorlds busy = Stage.ordinary().make();
    NeckWorlds two = new NeckWorlds();
    busy.image();
    busy.steps(3);
    String first = Stage.empty().look(new NeckWorlds());
    Probe.holds("made ahead", Stage.empty().look(one).equals(first));
    Probe.holds("made behind", Stage.empty().look(two).equals(first));
    due("told ahead", Stage.told(new NeckWorlds()).compareTo("0 0 0 0 0 "), 0);
    NeckWorlds x = new NeckWorlds();
    due("count of GOODS", x.count(0), 0);
    due("no GOOD 0", x.push(0, 1), BEYOND);
    due("no pairs", x.lifts(-2), 0);
    due("no differences", x.lifts(-1), 0);
    due("AT REST are none", x.steps(1), 0);
  }

  // ---- Terms 1: what a KIND is

  private static void kinds() {
    loadDragReachByNumber();
    pulledByEachPull();
    kindsAboveAreAs();
  }

  /** "LOAD: .. DRAG: .. REACH: .. (Others as the KIND above.)", for m 0 to 9 */
  private static void loadDragReachByNumber() {
    int[][] loads = {
      {1, 2, 3, 4, 5, 6, 7, 8, 9, 10}, {3, 6, 9, 12, 15, 18, 21, 24, 27, 30},
      {1, 2, 3, 4, 5, 6, 7, 8, 9, 10}, {0, 0, 0, 0, 0, 0, 0, 0, 0, 0},
      {6, 7, 8, 9, 10, 11, 12, 13, 14, 15}, {0, 1, 2, 3, 4, 5, 6, 7, 8, 9},
      {23, 26, 29, 32, 35, 38, 41, 44, 47, 50},
    };
    int[][] drags = {{0, 1}, {0, 0}, {0, 1}, {2, 2}, {0, 1}, {1, 1}, {0, 0}};
    int[] ropes = {2, 3, 4, 5, 6, 7, 8, 9, 10, 11};
    int[] halves = {1, 1, 2, 2, 3, 3, 4, 4, 5, 5};
    NeckWorlds x = new NeckWorlds();
    x.good(0, 20);
    for (int km = 0; km <= 69; km++) {
      x.become(0, km);
      int reach = km / 10 == 2 ? ropes[km % 10] : km / 10 == 4 ? halves[km % 10] : 40;
      due("LOAD of " + km, x.ofGood(0, 5), loads[km / 10][km % 10]);
      due("DRAG of " + km, x.ofGood(0, 7), drags[km / 10][km % 2]);
      due("REACH of " + km, x.ofGood(0, 8), reach);
    }
  }

  /** "PULLED (by v): .. GAS: 0 less half of v" (cut). ".. ANVIL: twice as STONE", not held */
  private static void pulledByEachPull() {
    int[] gas = {4, 4, 3, 3, 2, 2, 1, 1, 0, 0, 0, -1, -1, -2, -2, -3, -3, -4, -4};
    for (int kind = 0; kind <= 6; kind++) {
      NeckWorlds x = world("f-9", 10 * kind + 3, 0, 0);
      for (int floor = 0; floor <= 18; floor++) {
        int v = floor - 9;
        x.place(0, floor);
        int want = kind == 3 || kind == 5 ? gas[floor] : kind == 6 ? 2 * v : v;
        due("PULLED by " + v + " of KIND " + kind, x.ofGood(0, 6), want);
      }
    }
    // PULL is asked for anew by each m and FLOOR
    NeckWorlds x = world("f*7%19+m*5%19-9", 0, 0, 0);
    for (int m = 0; m <= 9; m++) {
      x.become(0, m);
      for (int floor = 0; floor <= 40; floor++) {
        x.place(0, floor);
        int want = Math.max(-9, Math.min(9, floor * 7 % 19 + m * 5 % 19 - 9));
        due("PULL of m " + m + " at " + floor, x.ofGood(0, 6), want);
      }
    }
  }

  /** "1 STONE, 2 ROPED, 3 GAS under GOOD; 4 PRISONER under ROPED; 5 WATER under GAS; 6 ANVIL under STONE" */
  private static void kindsAboveAreAs() {
    String[] under = {"0", "01", "02", "03", "024", "035", "016"};
    NeckWorlds x = new NeckWorlds();
    x.good(0, 0);
    for (int kind = 0; kind <= 6; kind++) {
      x.become(0, 10 * kind + 9 - kind);
      for (int as = 0; as <= 6; as++) {
        boolean is = under[kind].indexOf('0' + as) >= 0;
        due("KIND " + kind + " as " + as, x.as(0, as), is ? 9 - kind : Probe.KIND);
      }
    }
  }

  // ---- Terms 1: a STEP

  private static void steps() {
    dragIsNotBeyond0();
    speedIsHeldBehindDrag();
    pullIsThatOfTheFloorAhead();
    floorIsHeldFromGroundToGround();
    floorIsHeldWithinReach();
    heldBackFromOutOfReach();
    restsUpToItsDrag();
    restsAtTheEndOfItsReach();
    stepsTellHowManyRest();
  }

  /** "then nearer to 0 by DRAG (not beyond 0)" */
  private static void dragIsNotBeyond0() {
    int[] kms = {10, 3, 50, 30};
    int[] drags = {0, 1, 1, 2};
    for (int k = 0; k < kms.length; k++) {
      for (int speed = -9; speed <= 9; speed++) {
        int want = speed > drags[k] ? speed - drags[k] : speed < -drags[k] ? speed + drags[k] : 0;
        NeckWorlds x = still(kms[k], 20, speed);
        x.steps(1);
        is("DRAG " + drags[k] + " from " + speed, x, 20 + want, want);
      }
    }
    // PULLED comes ahead of DRAG: -1 and 1 are 0, which DRAG leaves
    NeckWorlds x = world("1", 1, 20, -1);
    x.steps(1);
    is("PULLED, then DRAG", x, 20, 0);
    x = world("9", 1, 20, -9);
    x.steps(1);
    is("PULLED, then DRAG", x, 20, 0);
  }

  /** "held within -9 to 9": behind PULLED and DRAG, not ahead of DRAG */
  private static void speedIsHeldBehindDrag() {
    for (int speed = -9; speed <= 9; speed++) {
      NeckWorlds x = world("9", 10, 20, speed);
      x.steps(1);
      is("9 more than " + speed, x, 20 + Math.min(9, speed + 9), Math.min(9, speed + 9));
      x = world("0-9", 10, 20, speed);
      x.steps(1);
      is("9 less than " + speed, x, 20 + Math.max(-9, speed - 9), Math.max(-9, speed - 9));
      x = world("9", 60, 20, speed);
      x.steps(1);
      is("18 more than " + speed, x, 29, 9);
      x = world("0-9", 60, 20, speed);
      x.steps(1);
      is("18 less than " + speed, x, 11, -9);
    }
    NeckWorlds x = world("0-9", 30, 20, 9);
    x.steps(1);
    is("9 and 4, less 2", x, 29, 9);
    x = world("9", 30, 20, -9);
    x.steps(1);
    is("-9 less 4, and 2", x, 11, -9);
    x = world("0-9", 50, 20, 6);
    x.steps(1);
    is("6 and 4, less 1", x, 29, 9);
    x = world("0-9", 50, 20, 5);
    x.steps(1);
    is("5 and 4, less 1", x, 28, 8);
  }

  /** "SPEED is more by PULLED by PULL (of its FLOOR)", on which it stands ahead of the STEP */
  private static void pullIsThatOfTheFloorAhead() {
    NeckWorlds x = world("(f=20)*2-(f=22)", 10, 20, 0);
    x.steps(1);
    is("by PULL of 20", x, 22, 2);
    x.steps(1);
    is("by PULL of 22", x, 23, 1);
    x.steps(1);
    is("by PULL of 23", x, 24, 1);
    x = world("m", 14, 20, 0);
    x.steps(1);
    is("by PULL of its m", x, 24, 4);
  }

  /** "held within 0 to 40 ..; if it had to be held, SPEED is 0 then" */
  private static void floorIsHeldFromGroundToGround() {
    for (int floor = 0; floor <= 40; floor++) {
      NeckWorlds x = still(10, 0, 0);
      for (int speed = -9; speed <= 9; speed++) {
        x.place(0, floor);
        x.push(0, speed);
        x.steps(1);
        boolean isHeld = floor + speed < 0 || floor + speed > 40;
        is(speed + " from " + floor, x, Math.max(0, Math.min(40, floor + speed)), isHeld ? 0 : speed);
      }
    }
  }

  /** "and within REACH of HOME; if it had to be held, SPEED is 0 then" */
  private static void floorIsHeldWithinReach() {
    int[] kms = {24, 28, 20, 40, 46, 42};
    int[] reaches = {6, 10, 2, 1, 4, 2};
    for (int k = 0; k < kms.length; k++) {
      for (int home = 0; home <= 40; home++) {
        NeckWorlds x = still(kms[k], 0, 0);
        for (int speed = -9; speed <= 9; speed++) {
          x.place(0, home);
          x.push(0, speed);
          x.steps(1);
          int low = Math.max(0, home - reaches[k]);
          int high = Math.min(40, home + reaches[k]);
          boolean isHeld = home + speed < low || home + speed > high;
          is(kms[k] + " by " + speed + " from " + home, x, Math.max(low, Math.min(high, home + speed)),
              isHeld ? 0 : speed);
        }
      }
    }
  }

  /** "FLOOR, SPEED, HOME stay" of a GOOD that becomes one of less REACH: a STEP holds it */
  private static void heldBackFromOutOfReach() {
    NeckWorlds x = still(10, 40, -9);
    x.steps(2);
    is("away from HOME", x, 22, -9);
    due("ROPED now", x.become(0, 20), 1);
    is("stays out of REACH", x, 22, -9);
    due("isn't AT REST", x.ofGood(0, 9), 0);
    x.steps(1);
    is("held within REACH of HOME", x, 38, 0);
    due("no TAX", x.count(2), 0);
    x = still(10, 0, 5);
    x.steps(6);
    due("a PRISONER now", x.become(0, 41), 1);
    x.steps(1);
    is("held within REACH of HOME", x, 1, 0);
  }

  /** "AT REST: a STEP more would leave FLOOR and SPEED as they are", PULLED no more than DRAG */
  private static void restsUpToItsDrag() {
    int[] kms = {30, 50, 1, 0, 11, 61};
    int[] most = {5, 3, 1, 0, 0, 0};
    for (int k = 0; k < kms.length; k++) {
      for (int v = -9; v <= 9; v++) {
        NeckWorlds x = world("0" + (v < 0 ? v : "+" + v), kms[k], 20, 0);
        boolean rests = Math.abs(v) <= most[k];
        due(kms[k] + " AT REST by " + v, x.ofGood(0, 9), rests ? 1 : 0);
        due(kms[k] + " AT REST by " + v, x.count(6), rests ? 1 : 0);
        due(kms[k] + " RESTS by " + v, x.rests(0, 0) == 0 ? 1 : 0, rests ? 1 : 0);
      }
    }
  }

  private static void restsAtTheEndOfItsReach() {
    NeckWorlds x = world("1", 20, 20, 0);
    due("pulled up within REACH", x.ofGood(0, 9), 0);
    x.steps(2);
    is("held at the end of REACH", x, 22, 0);
    due("pulled beyond REACH", x.ofGood(0, 9), 1);
    x.push(0, -1);
    due("it would lose SPEED", x.ofGood(0, 9), 0);
    x = still(0, 0, -1);
    due("FLOOR stays, SPEED doesn't", x.ofGood(0, 9), 0);
    x.steps(1);
    due("both stay", x.ofGood(0, 9), 1);
    x = still(0, 20, 0);
    due("off the grounds, too", x.ofGood(0, 9), 1);
  }

  /** "how many GOODS are AT REST then": none of none, all of 8 */
  private static void stepsTellHowManyRest() {
    for (int many = 0; many <= 8; many++) {
      NeckWorlds x = new NeckWorlds();
      Probe.text(x, 0, "0");
      for (int g = 0; g < 8; g++) {
        x.good(10, 20);
        x.push(g, g < many ? 0 : 1);
      }
      due("AT REST", x.count(6), many);
      due("AT REST then", x.steps(1), many);
      due("AT REST on the ground then", x.steps(20), 8);
    }
  }

  // ---- Terms 1: TAKINGS

  private static void takings() {
    taxOnComingToAGround();
    taxByLoadAndSide();
    taxByTheStepAhead();
    takingsAreHeldOneByOne();
  }

  /** "If it is 0 or 40 then, and wasn't ahead of that" */
  private static void taxOnComingToAGround() {
    for (int side = 0; side <= 1; side++) {
      int up = 2 * side - 1;
      int ground = 40 * side;
      NeckWorlds x = still(0, ground - 9 * up, 9 * up);
      Probe.text(x, 1, "7");
      x.steps(1);
      is("just there", x, ground, 9 * up);
      due("it comes there", x.count(2), 7);
      x.steps(1);
      is("held there", x, ground, 0);
      due("it was there", x.count(2), 7);
      x.push(0, -up);
      x.steps(1);
      due("it leaves", x.count(2), 7);
      x.push(0, 9 * up);
      x.steps(1);
      is("held, coming", x, ground, 0);
      due("it comes there again", x.count(2), 14);
      x.place(0, 20);
      x.place(0, ground);
      x.steps(1);
      due("put there", x.count(2), 14);
      x.place(0, ground - 9 * up);
      x.push(0, 8 * up);
      x.steps(1);
      due("a FLOOR beside", x.count(2), 14);
      due("made there", x.good(0, ground), 1);
      x.steps(1);
      due("it comes there, the other was", x.count(2), 21);
    }
  }

  /** "without a TEXT l*(s+1)"; "NAMES s SIDE, l LOAD"; "held within -99 to 99" */
  private static void taxByLoadAndSide() {
    int[] kms = {4, 14, 24, 34, 44, 54, 64, 69};
    int[] loads = {5, 15, 5, 0, 10, 4, 35, 50};
    for (int k = 0; k < kms.length; k++) {
      NeckWorlds x = still(kms[k], 1, -9);
      x.steps(1);
      due("TAX of " + kms[k] + " on SIDE 0", x.count(2), loads[k]);
      x = still(kms[k], 39, 9);
      x.steps(1);
      due("TAX of " + kms[k] + " on SIDE 1", x.count(2), Math.min(99, 2 * loads[k]));
    }
  }

  /** "t STEP"; "Then STEP is 1 more" */
  private static void taxByTheStepAhead() {
    NeckWorlds x = still(0, 1, -1);
    Probe.text(x, 1, "t+1");
    due("in thought", x.then(1, 0, 2), 1);
    x.steps(1);
    due("STEP 0", x.count(2), 1);
    due("STEP then", x.count(1), 1);
    x.place(0, 6);
    x.push(0, -1);
    due("in thought", x.then(5, 0, 2), 1);
    due("in thought", x.then(6, 0, 2), 1 + 7);
    x.steps(6);
    due("STEP 6", x.count(2), 1 + 7);
  }

  /** Eight STONES that come to the ground of SIDE 0 again and again, until TAKINGS are held. */
  private static NeckWorlds held(String tax) {
    NeckWorlds x = new NeckWorlds();
    for (int i = 0; i < 8; i++) {
      x.good(10, 0);
    }
    Probe.text(x, 0, "18*(f<1)-9");
    Probe.text(x, 1, tax);
    for (int i = 0; i < 3; i++) {
      x.steps(200);
    }
    Probe.text(x, 0, "0");
    for (int i = 0; i < 8; i++) {
      x.place(i, 20);
    }
    return x;
  }

  /** "TAKINGS (.. held within -99999 to 99999)"; "each GOOD by numbers" */
  private static void takingsAreHeldOneByOne() {
    for (int sign = -1; sign <= 1; sign += 2) {
      NeckWorlds x = held(sign > 0 ? "99" : "0-99");
      due("held", x.count(2), 99999 * sign);
      // GOOD 0 brings what is too much, then GOOD 1 takes 99
      Probe.text(x, 1, sign > 0 ? "99-198*(s=0)" : "198*(s=0)-99");
      x.place(0, 39);
      x.push(0, 1);
      x.place(1, 1);
      x.push(1, -1);
      due("held, then less, in thought", x.then(1, 0, 2), (99999 - 99) * sign);
      x.image();
      x.steps(1);
      due("held, then less", x.count(2), (99999 - 99) * sign);
      x.restore();
      x.place(1, 39);
      x.push(1, 1);
      x.place(0, 1);
      x.push(0, -1);
      x.steps(1);
      due("less, then held", x.count(2), 99999 * sign);
      Probe.text(x, 1, sign > 0 ? "0-1" : "1");
      x.place(2, 1);
      x.push(2, -1);
      x.steps(1);
      due("one off its bound", x.count(2), 99998 * sign);
      Probe.text(x, 1, sign > 0 ? "2" : "0-2");
      x.place(2, 1);
      x.push(2, -1);
      x.steps(1);
      due("held at its bound", x.count(2), 99999 * sign);
    }
  }

  // ---- Terms 1: DOORS

  private static void doors() {
    doorsGoRound();
    doorsAtTheLastStep();
    ringAtItsBounds();
    lineUpBelowRing();
  }

  private static int around(int place, int ring) {
    int at = place;
    while (at < 0) {
      at += ring;
    }
    while (at >= ring) {
      at -= ring;
    }
    return at;
  }

  /** "behind a STEP number t DOOR i stands at the place i and SHEAR times t, modulo RING (0 or more)" */
  private static void doorsGoRound() {
    for (int ring : new int[] {2, 3, 12, 23, 24}) {
      NeckWorlds x = new NeckWorlds();
      x.set(0, ring);
      for (int t = 0; t <= 3; t++) {
        for (int shear = -9; shear <= 9; shear++) {
          x.set(1, shear);
          x.set(2, -shear);
          due("SIDE 0", x.door(0, ring - 1), around(ring - 1 + shear * t, ring));
          due("SIDE 1", x.door(1, 0), around(-shear * t, ring));
        }
        x.steps(1);
      }
    }
  }

  private static void doorsAtTheLastStep() {
    NeckWorlds x = new NeckWorlds();
    for (int i = 0; i < 49; i++) {
      x.steps(200);
    }
    x.steps(199);
    x.set(0, 24);
    x.set(1, 9);
    x.set(2, -9);
    due("SIDE 0 at STEP 9999", x.door(0, 23), around(23 + 89991, 24));
    due("SIDE 1 at STEP 9999", x.door(1, 0), around(-89991, 24));
    due("it lines up", x.lineUp(0, around(2 * 89991, 24)), 0);
    due("in STEPS beyond 9999", x.lineUp(0, around(2 * 89991 + 18, 24)), 1);
  }

  /** "RING (2 to 24; 12 at first): each world has so many DOORS"; "SHEARS (.. -9 to 9; 1 and -1 at first)" */
  private static void ringAtItsBounds() {
    NeckWorlds x = new NeckWorlds();
    int was = 12;
    for (int ring = 2; ring <= 24; ring++) {
      due("RING", x.set(0, ring), was);
      due("the last DOOR", x.door(0, ring - 1), ring - 1);
      due("none behind it", x.door(1, ring), BEYOND);
      due("none behind it", x.lineUp(0, ring), BEYOND);
      due("none behind it", x.lineUp(ring, 0), BEYOND);
      due("none ahead", x.door(0, -1), BEYOND);
      was = ring;
    }
    for (int side = 0; side <= 1; side++) {
      was = side == 0 ? 1 : -1;
      for (int shear = -9; shear <= 9; shear++) {
        due("SHEAR", x.set(1 + side, shear), was);
        was = shear;
      }
    }
    due("RING stays", x.set(0, 2), 24);
    due("SHEAR of SIDE 0 stays", x.set(1, 0), 9);
    due("SHEAR of SIDE 1 stays", x.set(2, 0), 9);
  }

  /** "the least number of STEPS (0 or more, below RING) behind which they do"; "NONE: they never do" */
  private static void lineUpBelowRing() {
    NeckWorlds x = new NeckWorlds();
    x.set(2, 0);
    for (int ring = 2; ring <= 24; ring++) {
      x.set(0, ring);
      due("at once", x.lineUp(ring - 1, ring - 1), 0);
      due("behind 1", x.lineUp(0, 1), 1);
      due("behind RING less 1", x.lineUp(1, 0), ring - 1);
      due("behind RING less 1", x.lineUp(0, ring - 1), ring - 1);
    }
    x.set(1, -1);
    due("the other way", x.lineUp(0, 1), 23);
    x.set(1, 6);
    due("once in 4", x.lineUp(0, 18), 3);
    due("never", x.lineUp(0, 17), NONE);
    due("never", x.lineUp(1, 0), NONE);
    x.set(2, 6);
    due("beside one another", x.lineUp(3, 3), 0);
    due("never", x.lineUp(3, 4), NONE);
    // the STEP counts: DOORS go on from where they are
    x.set(2, 0);
    x.set(1, 1);
    x.steps(5);
    due("behind 5 STEPS they did", x.lineUp(0, 5), 0);
    due("the next but one", x.lineUp(0, 6), 1);
    due("they did a STEP ago", x.lineUp(0, 4), 23);
  }

  // ---- Terms 2: TEXTS

  private static void texts() {
    faultOfEachShortTape();
    faultOfEachByte();
    faultByDigits();
    faultByOpens();
    faultLeavesTheOneAhead();
    truthOfWhatIsNot0();
    comparesAllInts();
    wrapsAndCuts();
    holdsByUse();
    withoutAText();
    bytesOfAWord();
  }

  private static String names(int use) {
    return use == 0 ? "fm" : "slt";
  }

  private static int countDown(int[] digits, int base) {
    int i = 0;
    while (i < digits.length && ++digits[i] == base) {
      digits[i] = 0;
      i++;
    }
    return i;
  }

  /** "FAULT: the place of the first byte with which no TEXT goes on; how many there are, if it ends too early" */
  private static void faultOfEachShortTape() {
    String signs = "f1!()|<=+*s";
    NeckWorlds x = new NeckWorlds();
    int calls = 0;
    for (int length = 0; length <= 4; length++) {
      int[] digits = new int[length];
      do {
        StringBuilder text = new StringBuilder();
        for (int d : digits) {
          text.append(signs.charAt(d));
        }
        int fault = Oracle.Texts.fault(text.toString(), names(0));
        int got = Probe.text(x, 0, text.toString());
        if (got != (fault < 0 ? 1 : -10 - fault)) {
          due("FAULT of " + text, got, fault < 0 ? 1 : -10 - fault);
        }
        calls += 2;
        if (calls > 500) {
          x = new NeckWorlds();
          calls = 0;
        }
      } while (countDown(digits, signs.length()) < length);
    }
  }

  /** "TEXTS are read from THE TAPE (bytes ..)": of all 256 each at the head, behind a part, behind a sign */
  private static void faultOfEachByte() {
    for (int use = 0; use <= 1; use++) {
      char name = names(use).charAt(0);
      for (int b = 0; b < 256; b++) {
        boolean isPart = b >= '0' && b <= '9' || names(use).indexOf(b) >= 0;
        boolean isOpen = b == '!' || b == '(';
        boolean isSign = b > 0 && b < 128 && "|&<=>+-*/%".indexOf(b) >= 0;
        NeckWorlds x = new NeckWorlds();
        due("byte " + b + " alone", Probe.text(x, use, "" + (char) b), isPart ? 1 : isOpen ? -11 : -10);
        due("byte " + b + " behind", Probe.text(x, use, "" + name + (char) b), isSign ? -12 : -11);
        due("byte " + b + " behind +", Probe.text(x, use, name + "+" + (char) b), isPart ? 1 : isOpen ? -13 : -12);
        due("byte " + b + " within", Probe.text(x, use, "(" + name + (char) b + "1)"), isSign ? 1
            : b == ')' ? -13 : -12);
      }
    }
  }

  /** "a NUMBER of 1 to 4 digits" */
  private static void faultByDigits() {
    String[] taken = {"0", "9", "00", "0000", "9999", "1+9999", "(9999)", "!9999", "9999*9999"};
    for (String text : taken) {
      due("reads " + text, Probe.text(new NeckWorlds(), 0, text), 1);
    }
    String[] refused = {"00000", "12345", "99999", "123456"};
    for (String text : refused) {
      due("a fifth digit of " + text, Probe.text(new NeckWorlds(), 0, text), -14);
      due("a fifth digit of 1+" + text, Probe.text(new NeckWorlds(), 0, "1+" + text), -16);
    }
    NeckWorlds x = new NeckWorlds();
    Probe.text(x, 0, "9999-9995");
    due("by tens", x.law(0, 0, 0, 0), 4);
    Probe.text(x, 0, "1000-0999");
    due("by tens", x.law(0, 0, 0, 0), 1);
  }

  /** "At most 5 of ! and ( are open at once." */
  private static void faultByOpens() {
    for (int way = 0; way < 32; way++) {
      StringBuilder open = new StringBuilder();
      StringBuilder close = new StringBuilder();
      for (int i = 0; i < 5; i++) {
        boolean isNot = (way >> i & 1) == 0;
        open.append(isNot ? '!' : '(');
        close.append(isNot ? "" : ")");
      }
      due("five: " + open, Probe.text(new NeckWorlds(), 0, open + "f" + close), 1);
      due("a sixth: " + open + "!", Probe.text(new NeckWorlds(), 0, open + "!f" + close), -15);
      due("a sixth: " + open + "(", Probe.text(new NeckWorlds(), 0, open + "(f)" + close), -15);
      due("none closed: " + open, Probe.text(new NeckWorlds(), 0, open.toString()), -15);
      due("five, then five", Probe.text(new NeckWorlds(), 1, open + "s" + close + "+" + open + "t" + close), 1);
    }
    // a ! is open up to the end of its Q only
    due("! closed", Probe.text(new NeckWorlds(), 0, "(!1+!1+!1+!1+!1+!1+!1)"), 1);
    due("( closed", Probe.text(new NeckWorlds(), 0, "(1)+(1)+(1)+(1)+(1)+(1)+(1)"), 1);
    due("! closed by )", Probe.text(new NeckWorlds(), 0, "((((!(1)+1))))"), -15);
    due("! closed by )", Probe.text(new NeckWorlds(), 0, "(((!(1)+!!1)))"), 1);
  }

  /** "THE TAPE, which is empty then"; "-10 less the FAULT (no ERROR; the one ahead stays; THE TAPE is empty, too)" */
  private static void faultLeavesTheOneAhead() {
    for (int use = 0; use <= 1; use++) {
      NeckWorlds x = new NeckWorlds();
      due("without a TEXT, a FAULT", Probe.text(x, use, "1+"), -12);
      due("none yet", x.law(use, use == 0 ? 40 : 1, use == 0 ? 0 : 2, 0), 4);
      due("a TEXT", Probe.text(x, use, "3"), 1);
      due("THE TAPE is empty then", x.count(7), 0);
      due("nothing is left of it", x.text(use), -10);
      due("the one ahead stays", x.law(use, 0, 0, 0), 3);
      due("a FAULT", Probe.text(x, use, "4)"), -11);
      due("THE TAPE is empty, too", x.count(7), 0);
      due("the one ahead stays", x.law(use, 0, 0, 0), 3);
      due("a longer one in its place", Probe.text(x, use, "1+2*3"), 1);
      due("in its place", x.law(use, 0, 0, 0), 7);
      due("a shorter one in its place", Probe.text(x, use, "2"), 1);
      due("in its place", x.law(use, 0, 0, 0), 2);
      due("the other USE has none", x.law(1 - use, 1 - use, 0, 0), use == 0 ? 0 : -4);
      Probe.tape(x, "5");
      due("no such USE", x.text(2), BEYOND);
      due("THE TAPE stays", x.text(use), 1);
      due("it stayed", x.law(use, 0, 0, 0), 5);
      due("no ERROR but that", Stage.told(x).equals("1 0 0 0 0 ") ? 1 : 0, 1);
    }
    NeckWorlds x = new NeckWorlds();
    String fifty = "1111*0+1111*0+1111*0+1111*0+1111*0+1111*0+1111*0+7";
    due("50 bytes", fifty.length(), 50);
    due("a TEXT of 50", Probe.text(x, 0, fifty), 1);
    due("all of it", x.law(0, 0, 0, 0), 7);
    due("a TAPE of 50 that ends too early", Probe.text(x, 0, fifty.substring(0, 49) + "("), -60);
    due("a FAULT at the last of 50", Probe.text(x, 0, fifty.substring(0, 49) + ")"), -59);
  }

  private static int value(String text, int a, int b) {
    NeckWorlds x = new NeckWorlds();
    due("reads " + text, Probe.text(x, 0, text), 1);
    return x.law(0, a, b, 0);
  }

  /** "| & < = > ! are 1 or 0, what is not 0 being true" */
  private static void truthOfWhatIsNot0() {
    for (int v : new int[] {0, 1, 2, -1, -2, MAX, MIN, 256, 65536}) {
      int is = v == 0 ? 0 : 1;
      due("!f of " + v, value("!f", v, 0), 1 - is);
      due("!!f of " + v, value("!!f", v, 0), is);
      due("f&1 of " + v, value("f&1", v, 0), is);
      due("1&f of " + v, value("1&f", v, 0), is);
      due("f&0 of " + v, value("f&0", v, 0), 0);
      due("f|0 of " + v, value("f|0", v, 0), is);
      due("0|f of " + v, value("0|f", v, 0), is);
      due("f|1 of " + v, value("f|1", v, 0), 1);
      due("f&m of " + v, value("f&m", v, v), is);
      due("f|m of " + v, value("f|m", v, v), is);
    }
    due("1 & 2 are true", value("f&m", 1, 2), 1);
    due("1 and -1 are true", value("f&m", 1, -1), 1);
    due("it is 1", value("(f|m)+7", 4, 8), 8);
  }

  /** "S < S, S = S, S > S", of ints that are far apart, too */
  private static void comparesAllInts() {
    int[] all = {MIN, MIN + 1, -1, 0, 1, MAX - 1, MAX};
    for (int a : all) {
      for (int b : all) {
        due(a + "<" + b, value("f<m", a, b), a < b ? 1 : 0);
        due(a + "=" + b, value("f=m", a, b), a == b ? 1 : 0);
        due(a + ">" + b, value("f>m", a, b), a > b ? 1 : 0);
      }
    }
  }

  /** "Ints that wrap; / cut, % the rest that it leaves, both by 0 are 0" */
  private static void wrapsAndCuts() {
    due("MAX and 1", value("(f+1)=m", MAX, MIN), 1);
    due("MIN less 1", value("(f-1)=m", MIN, MAX), 1);
    due("twice MIN", value("f*2", MIN, 0), 0);
    due("twice MAX", value("f*2", MAX, 0), -2);
    due("MAX times MAX", value("f*f", MAX, 0), 1);
    due("MIN times -1", value("f*m=f", MIN, -1), 1);
    due("MIN by -1", value("f/m=f", MIN, -1), 1);
    due("the rest of MIN by -1", value("f%m", MIN, -1), 0);
    int[][] quotients = {{7, 2, 3, 1}, {-7, 2, -3, -1}, {7, -2, -3, 1}, {-7, -2, 3, -1}, {1, 2, 0, 1},
      {-1, 2, 0, -1}, {6, 3, 2, 0}, {-6, 3, -2, 0}, {5, 0, 0, 0}, {-5, 0, 0, 0}, {0, 0, 0, 0}, {0, 5, 0, 0}};
    for (int[] q : quotients) {
      due(q[0] + "/" + q[1], value("f/m", q[0], q[1]), q[2]);
      due(q[0] + "%" + q[1], value("f%m", q[0], q[1]), q[3]);
    }
    due("by 0, then on", value("5/0+4%0+3", 0, 0), 3);
    due("all is worked out", value("1|1/0", 0, 0), 1);
    due("all is worked out", value("0&1%0", 0, 0), 0);
  }

  /** "held within -9 to 9"; "held within -99 to 99" */
  private static void holdsByUse() {
    for (int v : new int[] {MIN, -100, -99, -98, -10, -9, -8, 0, 8, 9, 10, 98, 99, 100, MAX}) {
      NeckWorlds x = new NeckWorlds();
      Probe.text(x, 0, "f");
      Probe.text(x, 1, "l");
      due("PULL of " + v, x.law(0, v, 0, 0), Math.max(-9, Math.min(9, v)));
      due("TAX of " + v, x.law(1, 0, v, 0), Math.max(-99, Math.min(99, v)));
      // not held by parts, but as a whole
      Probe.text(x, 0, "f-m");
      due("PULL as a whole", x.law(0, v, v, 0), 0);
      Probe.text(x, 1, "t-l");
      due("TAX as a whole", x.law(1, 0, v, v), 0);
    }
  }

  /** "without a TEXT (f-20)/5" (cut); "without a TEXT l*(s+1)"; "(PULL: a, b)" */
  private static void withoutAText() {
    int[] pulls = {-4, -3, -3, -3, -3, -3, -2, -2, -2, -2, -2, -1, -1, -1, -1, -1, 0, 0, 0, 0, 0,
      0, 0, 0, 0, 1, 1, 1, 1, 1, 2, 2, 2, 2, 2, 3, 3, 3, 3, 3, 4};
    NeckWorlds x = new NeckWorlds();
    for (int f = 0; f <= 40; f++) {
      due("PULL at " + f, x.law(0, f, 9, 9), pulls[f]);
    }
    due("PULL 9", x.law(0, 69, 0, 0), 9);
    due("PULL held", x.law(0, 70, 0, 0), 9);
    due("PULL -9", x.law(0, -29, 0, 0), -9);
    due("PULL held", x.law(0, -30, 0, 0), -9);
    for (int l = 0; l <= 50; l++) {
      due("TAX of SIDE 0", x.law(1, 0, l, 9), l);
      due("TAX of SIDE 1", x.law(1, 1, l, 9), Math.min(99, 2 * l));
    }
    Probe.text(x, 0, "m");
    due("b is m, whatever c", x.law(0, 1, 2, 3), 2);
    Probe.text(x, 1, "t");
    due("c is t", x.law(1, 1, 2, 3), 3);
    Probe.text(x, 1, "s");
    due("a is s", x.law(1, 4, 2, 3), 4);
  }

  /** "The n lowest bytes (1 .. 8) of a word, the lowest first, come to THE TAPE: how many there are" */
  private static void bytesOfAWord() {
    String text = "1+2+f*3-";
    long word = Probe.word(text, 0, 8);
    for (int n = 1; n <= 8; n++) {
      NeckWorlds x = new NeckWorlds();
      due("n bytes", x.feed(word, n), n);
      due("how many", x.count(7), n);
      due("the lowest first", x.text(0), n % 2 == 1 ? 1 : -10 - n);
      due("all of them", x.law(0, 1, 0, 0), new int[] {0, 1, -3, 3, -3, 4, -3, 6, -3}[n]);
      due("from its head again", x.feed(word, 1), 1);
    }
    NeckWorlds x = new NeckWorlds();
    due("the highest byte of a word below 0", x.feed(0xFF31313131313131L, 7), 7);
    due("a fifth digit", x.text(0), -14);
    due("a byte above 127", x.feed(0xB12B66L, 3), 3);
    due("it isn't 1", x.text(0), -12);
  }

  // ---- Terms 3: RESTS, FIRST, OVER, SOONEST, LEAST

  private static void rests() {
    restsFrom0();
    overFrom0();
    soonestAndLeastBy100();
    firstBySoonestThenNumber();
  }

  /** "RESTS of a GOOD: behind how many STEPS (0 to 200) it is so first, and where" */
  private static void restsFrom0() {
    for (int speed = 1; speed <= 9; speed++) {
      NeckWorlds x = still(10, 0, speed);
      // it comes to 40, where a STEP more takes SPEED
      int there = (40 + speed - 1) / speed;
      int want = 40 % speed == 0 ? there + 1 : there;
      due("RESTS by " + speed, x.rests(0, 0), want);
      due("where", x.rests(0, 1), 40);
      x.steps(want - 1);
      due("not ahead of it", x.ofGood(0, 9), 0);
      due("RESTS then", x.rests(0, 0), 1);
      x.steps(1);
      due("then", x.ofGood(0, 9), 1);
      due("RESTS at once", x.rests(0, 0), 0);
      due("where it is", x.rests(0, 1), 40);
    }
    NeckWorlds x = still(10, 0, 0);
    due("at once", x.rests(0, 0), 0);
    due("on the ground of SIDE 0", x.rests(0, 1), 0);
  }

  /** "the number of STEPS (0 to 100) behind which the GOOD is first on its ground, pushed by p now" */
  private static void overFrom0() {
    NeckWorlds x = still(10, 0, 0);
    for (int p = -9; p <= 9; p++) {
      due("there already, pushed by " + p, x.over(0, 0, p), 0);
      due("to the other ground by " + p, x.over(0, 1, p), p <= 0 ? NONE : (40 + p - 1) / p);
    }
    x.place(0, 40);
    for (int p = -9; p <= 9; p++) {
      due("there already, pushed by " + p, x.over(0, 1, p), 0);
      due("to the other ground by " + p, x.over(0, 0, p), p >= 0 ? NONE : (40 - p - 1) / -p);
    }
    // it comes there again and again: first counts
    x = world("18*(f<1)-9", 10, 9, 0);
    due("first", x.over(0, 0, 0), 1);
    due("SPEED as it is counts, too", x.over(0, 0, 9), 2);
    x.push(0, 9);
    due("held", x.over(0, 0, 9), x.over(0, 0, 0));
  }

  /** OVER "(0 to 100)" for SOONEST and LEAST: TEXTS found by search, where all p take so long */
  private static void soonestAndLeastBy100() {
    NeckWorlds x = world("(28-f)/3+177%(f+10)%2-6193%(f+17)%8", 10, 30, -7);
    int p = x.soonest(0, 1, 0);
    due("SOONEST behind 100", x.soonest(0, 1, 1), 100);
    due("by that p", x.over(0, 1, p), 100);
    due("LEAST, too", x.over(0, 1, x.least(0, 1)), 100);
    x = world("(14-f)/3+1172%(f+32)%3-7842%(f+56)%4", 60, 40, -8);
    for (int q = -9; q <= 9; q++) {
      due("none by 100", x.over(0, 0, q), NONE);
    }
    due("SOONEST: NONE", x.soonest(0, 0, 0), NONE);
    due("SOONEST: NONE", x.soonest(0, 0, 1), NONE);
    due("LEAST: NONE", x.least(0, 0), NONE);
    // a STEP later it is
    boolean isOver = false;
    for (int q = -9; q <= 9; q++) {
      x.place(0, 40);
      x.push(0, -8);
      x.push(0, q);
      isOver |= x.then(100, 0, 0) != 0 && x.then(101, 0, 0) == 0;
    }
    Probe.holds("behind 101 it is over", isOver);
  }

  /** "of all GOODS that rest in THE MIDDLE that which does so first; of several the least" */
  private static void firstBySoonestThenNumber() {
    NeckWorlds x = new NeckWorlds();
    Probe.text(x, 0, "0");
    // DRAG 1: SPEED s rests behind s STEPS, s*(s-1)/2 FLOORS on
    for (int g = 0; g < 8; g++) {
      x.good(1, 20);
      x.push(g, g == 7 ? 1 : g == 6 ? -1 : 3);
    }
    due("of several the least", x.first(), 6);
    x.push(6, -2);
    due("the soonest", x.first(), 7);
    x.push(7, 2);
    due("all alike", x.first(), 0);
    x.place(0, 25);
    due("one that rests beyond THE MIDDLE", x.first(), 1);
    x.place(1, 22);
    x.push(1, 3);
    due("one that comes to rest beyond THE MIDDLE", x.first(), 2);
    x.place(1, 13);
    x.push(1, 3);
    due("it rests at 16", x.first(), 1);
    x.place(1, 12);
    x.push(1, 3);
    due("it rests at 15", x.first(), 2);
    x.place(1, 27);
    x.push(1, -3);
    due("it rests at 24", x.first(), 1);
    x.place(1, 28);
    x.push(1, -3);
    due("it rests at 25", x.first(), 2);
  }

  // ---- Terms 3: PUSHES of all sizes, LIFTS

  private static void pushes() {
    soonestOfAllPushes();
    leastOfAllPushes();
  }

  /** "of all p that with the least such number; of several that with the least size, then that below 0" */
  private static void soonestOfAllPushes() {
    int[] floors = {4, 5, 6, 7, 8, 9, 10};
    int[] behind = {1, 1, 1, 1, 1, 1, 2};
    int[] least = {4, 5, 6, 7, 8, 9, 5};
    for (int i = 0; i < floors.length; i++) {
      NeckWorlds x = still(10, floors[i], 0);
      due("SOONEST down", x.soonest(0, 0, 0), -least[i]);
      due("behind", x.soonest(0, 0, 1), behind[i]);
      x.place(0, 40 - floors[i]);
      due("SOONEST up", x.soonest(0, 1, 0), least[i]);
      due("behind", x.soonest(0, 1, 1), behind[i]);
    }
    NeckWorlds x = still(10, 20, 0);
    due("7, 8 and 9 are as soon", x.soonest(0, 1, 0), 7);
    due("7, 8 and 9 are as soon", x.soonest(0, 1, 1), 3);
    x.place(0, 18);
    due("9 alone is so soon", x.soonest(0, 0, 0), -9);
    due("9 alone is so soon", x.soonest(0, 0, 1), 2);
    x.push(0, -9);
    due("it is so soon anyway", x.soonest(0, 0, 0), 0);
    x.place(0, 18);
    x.push(0, -4);
    due("-5 more are enough", x.soonest(0, 0, 0), -5);
    due("turned around", x.soonest(0, 1, 0), 9);
    due("turned around", x.soonest(0, 1, 1), 5);
    // on a ground any p is as soon, and none is the least size
    x.place(0, 0);
    x.push(0, 9);
    due("there already", x.soonest(0, 0, 0), 0);
    due("there already", x.soonest(0, 0, 1), 0);
    // off 20 PULL brings all to 40, by 2 a STEP sooner than by -1 or 1
    x = world("40*!(f=20)", 10, 20, 0);
    due("of -1 and 1", x.over(0, 1, 1), 4);
    due("of -1 and 1", x.over(0, 1, -1), 4);
    due("the least number goes ahead of the least size", x.soonest(0, 1, 0), 2);
  }

  /** "LEAST: of all p by which it is OVER at all that of the least size; of two that below 0" */
  private static void leastOfAllPushes() {
    NeckWorlds x = still(1, 36, 0);
    // DRAG 1: p brings it p*(p-1)/2 FLOORS on
    int[] needs = {0, 2, 3, 3, 4, 4, 4, 5, 5, 5, 5, 6, 6};
    for (int off = 1; off < needs.length; off++) {
      x.place(0, 40 - off);
      due("LEAST up by " + off, x.least(0, 1), needs[off]);
      x.place(0, off);
      due("LEAST down by " + off, x.least(0, 0), -needs[off]);
    }
    x.place(0, 4);
    due("9 brings it 36 on", x.least(0, 1), 9);
    x.place(0, 3);
    due("9 doesn't bring it 37 on", x.least(0, 1), NONE);
    x.place(0, 36);
    due("-9 brings it 36 down", x.least(0, 0), -9);
    x.place(0, 37);
    due("-9 doesn't bring it 37 down", x.least(0, 0), NONE);
    for (int side = 0; side <= 1; side++) {
      x = world(side == 0 ? "0-9*!(f=20)" : "9*!(f=20)", 10, 20, 0);
      due("of -1 and 1", x.least(0, side), -1);
      x.push(0, 1);
      due("none is needed", x.least(0, side), 0);
    }
  }

  private static void lifts() {
    liftsAsManyAsCanBe();
    liftsOfSeveralTheFirst();
  }

  /** "paired, as many as can be, each at most once" */
  private static void liftsAsManyAsCanBe() {
    for (int low = 0; low <= 8; low++) {
      for (int high = 0; low + high <= 8; high++) {
        NeckWorlds x = new NeckWorlds();
        for (int i = 0; i < low; i++) {
          x.good(4, 0);
        }
        for (int i = 0; i < high; i++) {
          x.good(5, 40);
        }
        String of = low + " and " + high;
        int pairs = Math.min(low, high);
        due("pairs of " + of, x.lifts(-2), pairs);
        due("differences of " + of, x.lifts(-1), pairs);
        for (int i = 0; i < low; i++) {
          due("pair of " + i + " of " + of, x.lifts(i), i < pairs ? low + i : -1);
        }
        for (int i = 0; i < high; i++) {
          due("pair of " + (low + i) + " of " + of, x.lifts(low + i), i < pairs ? i : -1);
        }
      }
    }
    NeckWorlds x = new NeckWorlds();
    int[] floors = {0, 1, 39, 40};
    for (int floor : floors) {
      x.good(4, floor);
    }
    due("on the grounds, not beside them", x.lifts(-2), 1);
    due("beside it", x.lifts(1), -1);
    due("beside it", x.lifts(2), -1);
    due("on it", x.lifts(0), 3);
  }

  private static NeckWorlds lifting(int[] low, int[] high) {
    NeckWorlds x = new NeckWorlds();
    for (int load : low) {
      x.good(load - 1, 0);
    }
    for (int load : high) {
      x.good(load - 1, 40);
    }
    return x;
  }

  private static int[] row(int... numbers) {
    return numbers;
  }

  /** "of several such the first (by the GOODS of SIDE 0 in order: the less other GOOD; one without any last)" */
  private static void liftsOfSeveralTheFirst() {
    // LOADS of SIDE 0, LOADS of SIDE 1, the differences, the pairs of SIDE 0
    int[][][] all = {
      {row(3), row(2, 4), row(1), row(1)},
      {row(3), row(4, 2), row(1), row(1)},
      {row(3), row(5, 2), row(1), row(2)},
      {row(2, 4), row(3), row(1), row(2, -1)},
      {row(4, 2), row(3), row(1), row(2, -1)},
      {row(2, 3), row(3), row(0), row(-1, 2)},
      {row(1, 2), row(3, 4), row(4), row(2, 3)},
      {row(1, 2), row(4, 3), row(4), row(2, 3)},
      {row(1, 4), row(5, 2), row(2), row(3, 2)},
      {row(1, 4, 4), row(4, 2), row(1), row(4, 3, -1)},
      {row(5, 5, 5), row(5, 5), row(0), row(3, 4, -1)},
      {row(5, 5), row(5, 5, 5), row(0), row(2, 3)},
      {row(9, 1), row(5, 5, 1), row(4), row(2, 4)},
      {row(1, 9), row(5, 5, 1), row(4), row(4, 2)},
      {row(6, 3, 1), row(2, 5, 9), row(6), row(5, 4, 3)},
    };
    for (int i = 0; i < all.length; i++) {
      NeckWorlds x = lifting(all[i][0], all[i][1]);
      due("differences " + i, x.lifts(-1), all[i][2][0]);
      for (int g = 0; g < all[i][3].length; g++) {
        due("pair of " + g + " in " + i, x.lifts(g), all[i][3][g]);
        if (all[i][3][g] >= 0) {
          due("pair of its other one in " + i, x.lifts(all[i][3][g]), g);
        }
      }
    }
  }

  // ---- Terms 4: SHEETS; ROLLED, WHOSE, pushes and judge by them

  private static void sheets() {
    sheetsMissingAtFirst();
    sheetsOfUpTo40();
    lowestBits();
    movesAsTheyAllWere();
    rolledFromMinus9To9();
    rolledBy40();
    whoseLeastKind();
    pushesUpToTheFirst();
    judgesLacksAndTooMany();
  }

  /** "SHEETS 0 .. 3 are rows .., or missing (as at first)"; "0: it is missing, n doesn't matter" */
  private static void sheetsMissingAtFirst() {
    NeckWorlds x = new NeckWorlds();
    for (int s = 0; s < 4; s++) {
      due("missing", x.judge(s), NONE);
      due("missing", x.pushes(s), NONE);
      due("missing", x.put(s, 0, 0), NONE);
    }
    for (int s = 0; s < 4; s++) {
      due("a SHEET", x.sheet(s, 8 << s % 3, s), 1);
      for (int t = 0; t < 4; t++) {
        due("that alone", x.pushes(t), t <= s ? 0 : NONE);
      }
    }
    for (int n : new int[] {0, 1, 40, 41, -1, MIN, MAX}) {
      due("a SHEET", x.sheet(2, 8, 3), 1);
      due("of 0 bits", x.sheet(2, 0, n), 1);
      due("missing then", x.judge(2), NONE);
      due("missing still", x.sheet(2, 0, n), 1);
      due("the others stay", x.judge(1), 0);
    }
  }

  /** "rows of 8, 16, 32 bits, at most 40 numbers"; "n numbers, all 0" */
  private static void sheetsOfUpTo40() {
    for (int bits = 8; bits <= 32; bits *= 2) {
      NeckWorlds x = new NeckWorlds();
      for (int n : new int[] {0, 1, 39, 40}) {
        due("n numbers", x.sheet(3, bits, n), 1);
        due("the last", x.put(3, n - 1, 7), n == 0 ? BEYOND : 1);
        due("none behind it", x.put(3, n, 7), BEYOND);
        due("the first", x.put(3, 0, 7), n == 0 ? BEYOND : 1);
        due("none ahead of it", x.put(3, -1, 7), BEYOND);
      }
      due("41", x.sheet(3, bits, 41), BEYOND);
      due("the one ahead stays", x.put(3, 39, 7), 1);
      due("-1", x.sheet(3, bits, -1), STATE);
      due("the one ahead stays", x.put(3, 39, 7), 1);
      // all of them were put, so all must be made 0 again; a GOOD stands on 0
      for (int i = 0; i < 40; i++) {
        x.put(3, i, 5);
      }
      x.sheet(3, bits, 40);
      x.good(10, 20);
      for (int i = 0; i < 40; i++) {
        due("all 0", x.move(3, i, 3, 0, 1), 1);
        due("a PUSH of 0", x.pushes(3), 1);
      }
      due("all 0", x.ofGood(0, 3), 0);
    }
  }

  /** "becomes v (its lowest bits)" */
  private static void lowestBits() {
    NeckWorlds x = new NeckWorlds();
    x.good(10, 20);
    int[] bits = {8, 16, 32};
    int[] vs = {9, -9, 0x109, 0x10009, -256 - 9, -65536 - 9, 0xF7, 0xFFF7, 10, -10, 0x89, 0x8009, 0x80000009};
    // the PUSH that it is then, by bits; 99: it is none
    int[][] wants = {
      {9, -9, 9, 9, -9, -9, -9, -9, 99, 99, 99, 9, 9},
      {9, -9, 99, 9, 99, -9, 99, -9, 99, 99, 99, 99, 9},
      {9, -9, 99, 99, 99, 99, 99, 99, 99, 99, 99, 99, 99},
    };
    for (int b = 0; b < 3; b++) {
      x.sheet(b, bits[b], 1);
      for (int i = 0; i < vs.length; i++) {
        x.place(0, 20);
        due("put", x.put(b, 0, vs[i]), 1);
        due(vs[i] + " in " + bits[b] + " bits", x.pushes(b), wants[b][i] == 99 ? 0 : 1);
        due(vs[i] + " in " + bits[b] + " bits", x.ofGood(0, 3), wants[b][i] == 99 ? 0 : wants[b][i]);
      }
    }
  }

  /** "n numbers of a SHEET .. come to another one (or the same) .., as they all were: n" */
  private static void movesAsTheyAllWere() {
    for (int from = 0; from <= 3; from++) {
      for (int to = 0; to <= 3; to++) {
        NeckWorlds x = new NeckWorlds();
        Probe.fill(x, 0, 8, 11, 12, 13, 14, 15, 16, 17, 18);
        int[] want = {11, 12, 13, 14, 15, 16, 17, 18};
        for (int i = 0; i < 5; i++) {
          want[to + i] = 11 + from + i;
        }
        due("within one", x.move(0, from, 0, to, 5), 5);
        for (int f : want) {
          x.good(0, f);
        }
        due("from " + from + " to " + to, x.judge(0), -1);
      }
    }
    for (int bits = 8; bits <= 32; bits *= 2) {
      NeckWorlds x = new NeckWorlds();
      x.sheet(0, bits, 40);
      x.sheet(3, bits, 40);
      for (int i = 0; i < 40; i++) {
        x.put(0, i, i % 8);
      }
      due("all 40", x.move(0, 0, 3, 0, 40), 40);
      for (int i = 0; i < 8; i++) {
        x.good(0, i);
      }
      due("they came", x.judge(3), 8);
      due("the first stays", x.judge(0), 8);
      due("the last 8", x.move(3, 32, 3, 0, 8), 8);
      due("they came", x.judge(3), 8);
      due("one more", x.move(0, 0, 3, 0, 41), BEYOND);
      due("none", x.move(0, 40, 3, 40, 0), 0);
    }
  }

  /** "SPEEDS (-9 to 9) with which it is so now: the least, how many" */
  private static void rolledFromMinus9To9() {
    NeckWorlds x = still(10, 20, 4);
    for (int speed = -10; speed <= 10; speed++) {
      Probe.fill(x, 0, 8, 20 + speed);
      boolean isOne = speed >= -9 && speed <= 9;
      due("ROLLED by " + speed, x.rolled(0, 0, 0), isOne ? speed : NONE);
      due("how many", x.rolled(0, 0, 1), isOne ? 1 : NONE);
    }
    for (int off = 0; off <= 9; off++) {
      x.place(0, off);
      Probe.fill(x, 0, 16, 0);
      due("to 0 from " + off, x.rolled(0, 0, 0), -9);
      due("how many", x.rolled(0, 0, 1), 10 - off);
      x.place(0, 40 - off);
      Probe.fill(x, 0, 32, 40);
      due("to 40 from " + (40 - off), x.rolled(0, 0, 0), off);
      due("how many", x.rolled(0, 0, 1), 10 - off);
    }
    // "behind 1, 2, .. STEPS": not now
    x.place(0, 20);
    Probe.fill(x, 0, 8, 20, 20);
    due("stays", x.rolled(0, 0, 0), 0);
    Probe.fill(x, 0, 8, 21, 22);
    due("by 1", x.rolled(0, 0, 0), 1);
    Probe.fill(x, 0, 8, 21, 23);
    due("by none", x.rolled(0, 0, 0), NONE);
  }

  /** A SHEET of no numbers tells nothing that isn't so; one of 40 is read to its end */
  private static void rolledBy40() {
    NeckWorlds x = still(10, 20, 0);
    x.sheet(1, 8, 0);
    due("no numbers", x.rolled(0, 1, 0), -9);
    due("no numbers", x.rolled(0, 1, 1), 19);
    due("no numbers", x.whose(0, 1), 0);
    x.sheet(0, 8, 40);
    for (int i = 0; i < 40; i++) {
      x.put(0, i, 20);
    }
    due("40 numbers", x.rolled(0, 0, 0), 0);
    due("40 numbers", x.rolled(0, 0, 1), 1);
    due("40 numbers", x.whose(0, 0), 0);
    x.put(0, 39, 21);
    due("the last isn't so", x.rolled(0, 0, 0), NONE);
    due("the last isn't so", x.rolled(0, 0, 1), NONE);
    due("the last isn't so", x.whose(0, 0), NONE);
    x.put(0, 39, 20);
    x.put(0, 0, 21);
    due("the first isn't so", x.rolled(0, 0, 0), NONE);
    due("the first isn't so", x.whose(0, 0), NONE);
  }

  /** "WHOSE: the least KIND as which, with its m, it is so" */
  private static void whoseLeastKind() {
    // at 20 with SPEED 9, no PULL; by m 0 and 1
    int[][] at = {{29, 22, 27, 21, 28}, {28, 29, 23, 27, 21}};
    int[][] whose = {{0, 2, 3, 4, 5}, {0, 1, 2, 3, 4}};
    for (int m = 0; m <= 1; m++) {
      for (int as = 0; as <= 6; as++) {
        NeckWorlds x = still(10 * as + m, 20, 9);
        for (int i = 0; i < at[m].length; i++) {
          Probe.fill(x, 2, 8, at[m][i]);
          due("WHOSE " + at[m][i] + " with m " + m, x.whose(0, 2), whose[m][i]);
        }
        Probe.fill(x, 2, 8, 30);
        due("of none", x.whose(0, 2), NONE);
      }
    }
    NeckWorlds x = world("1", 0, 20, 0);
    Probe.fill(x, 2, 8, 22);
    due("an ANVIL", x.whose(0, 2), 6);
    Probe.fill(x, 2, 8, 21, 23);
    due("a GOOD, no STONE", x.whose(0, 2), 0);
    Probe.fill(x, 2, 8, 21, 22);
    due("ROPED, by its HOME", x.whose(0, 2), 2);
    Probe.fill(x, 2, 8, 21, 21);
    due("a PRISONER, by its HOME", x.whose(0, 2), 4);
    Probe.fill(x, 2, 8, 20);
    due("GAS ahead of WATER", x.whose(0, 2), 3);
  }

  /** "how many, up to the first that is not -9 to 9 (no ERROR then), or for which there is no GOOD" */
  private static void pushesUpToTheFirst() {
    for (int goods = 0; goods <= 8; goods++) {
      for (int n = 0; n <= 10; n++) {
        NeckWorlds x = new NeckWorlds();
        for (int i = 0; i < goods; i++) {
          x.good(0, 20);
        }
        x.sheet(0, 8, n);
        for (int i = 0; i < n; i++) {
          x.put(0, i, i % 2 == 0 ? 9 : -9);
        }
        due(n + " PUSHES of " + goods, x.pushes(0), Math.min(n, goods));
        for (int i = 0; i < goods; i++) {
          due("SPEED of " + i, x.ofGood(i, 3), i >= n ? 0 : i % 2 == 0 ? 9 : -9);
        }
      }
    }
    for (int bad : new int[] {10, -10, 127, -128}) {
      for (int at = 0; at < 4; at++) {
        NeckWorlds x = new NeckWorlds();
        for (int i = 0; i < 4; i++) {
          x.good(0, 20);
        }
        Probe.fill(x, 1, 8, 2, 2, 2, 2);
        x.put(1, at, bad);
        due(bad + " in place " + at, x.pushes(1), at);
        for (int i = 0; i < 4; i++) {
          due("SPEED of " + i, x.ofGood(i, 3), i < at ? 2 : 0);
        }
        due("no ERROR", Stage.told(x).equals("0 0 0 0 0 ") ? 1 : 0, 1);
      }
    }
  }

  /** "the first that isn't so (one that lacks, or is too many, too); -1: all are" */
  private static void judgesLacksAndTooMany() {
    for (int goods = 0; goods <= 8; goods++) {
      for (int n = 0; n <= 10; n++) {
        NeckWorlds x = new NeckWorlds();
        x.sheet(0, 32, n);
        for (int i = 0; i < goods; i++) {
          x.good(0, 40 - i);
        }
        for (int i = 0; i < n; i++) {
          x.put(0, i, i < goods ? 40 - i : 0);
        }
        due(n + " numbers of " + goods, x.judge(0), n == goods ? -1 : Math.min(n, goods));
        for (int i = 0; i < Math.min(n, goods); i++) {
          x.put(0, i, 39 - i);
          due("the first that isn't so", x.judge(0), i);
          x.put(0, i, 40 - i);
        }
      }
    }
  }

  // ---- Terms 3: ODDS, STEPS by draws

  private static void odds() {
    oddsInLowestTerms();
    quakesAreHeld();
    oddsBehind50();
  }

  private static void fraction(String what, NeckWorlds x, int side, int n, int above, int below) {
    due(what + ", above", x.odds(0, side, n, 0), above);
    due(what + ", below", x.odds(0, side, n, 1), below);
  }

  /** "SPEED is 1 less, as it is, or 1 more .., as likely each"; "a fraction in lowest terms (0 is 0 by 1)" */
  private static void oddsInLowestTerms() {
    // the SPEED that is left brings it to a ground: of 3 to the n-th ways 1, 1, 3, 7, 19, 51 leave none
    int[] above = {0, 1, 1, 10, 31, 32};
    int[] below = {1, 3, 3, 27, 81, 81};
    NeckWorlds x = still(10, 20, 0);
    for (int n = 0; n <= 5; n++) {
      fraction("up by " + n, x, 1, n, above[n], below[n]);
      fraction("down by " + n, x, 0, n, above[n], below[n]);
    }
    for (int n = 0; n <= 5; n++) {
      fraction("held by REACH, never by " + n, world("9", 20, 35, 0), 1, n, 0, 1);
      fraction("pulled, sure by " + n, world("9", 10, 35, 0), 1, n, 1, 1);
      fraction("pulled, never by " + n, world("9", 10, 35, 0), 0, n, 0, 1);
    }
    // of the three SPEEDS on the ground of SIDE 0 one leaves it
    fraction("stays", still(10, 0, 0), 0, 1, 2, 3);
    fraction("leaves", still(10, 0, 0), 1, 1, 1, 3);
  }

  /** "SPEED is 1 less, as it is, or 1 more (held)" */
  private static void quakesAreHeld() {
    // 10 in place of 9, less PULL, would bring it to 29, whence it would be pulled up
    NeckWorlds x = world("9*(f>28)-9*!(f>28|f=20)-(f=20)", 10, 20, 9);
    fraction("held at 9", x, 1, 1, 0, 1);
    fraction("held at 9", x, 0, 1, 1, 1);
    x = world("9*(f>28)-9*!(f>28|f=20)", 10, 20, 8);
    fraction("9 is taken", x, 1, 1, 1, 3);
    x = world("9*!(f<12|f=20)-9*(f<12)+(f=20)", 10, 20, -9);
    fraction("held at -9", x, 0, 1, 0, 1);
    fraction("held at -9", x, 1, 1, 1, 1);
    x = world("9*!(f<12|f=20)-9*(f<12)", 10, 20, -8);
    fraction("-9 is taken", x, 0, 1, 1, 3);
  }

  /** "ahead of each of the next n (0 to 5) STEPS there is a QUAKE: ..; behind 50 STEPS from now" */
  private static void oddsBehind50() {
    // SPEED 1 comes to 40 behind 40 - floor STEPS; no QUAKE
    NeckWorlds x = still(10, 0, 1);
    fraction("behind 40", x, 1, 0, 1, 1);
    // 0 9 9 0, 0 9 9 0, ..: behind 50 STEPS it is where it is behind 2
    int[] isThere = {0, 1, 1, 0};
    x = world("18*(f<1)-9", 10, 0, 0);
    for (int step = 0; step < 4; step++) {
      due("behind 50 from " + step, x.then(50, 0, 0), isThere[step] == 1 ? 0 : 9);
      fraction("behind 50 from " + step, x, 0, 0, isThere[step], 1);
      x.steps(1);
    }
    // the QUAKE is ahead of the STEP: it counts in that STEP, and the fifth in the fifth
    x = still(30, 40, 0);
    fraction("GAS drags a QUAKE away", x, 1, 5, 1, 1);
    x = still(30, 39, 2);
    fraction("3 less 2 brings it there", x, 1, 1, 1, 3);
    x = still(50, 35, 3);
    fraction("4, then 3: 3 and 2", x, 1, 1, 1, 3);
  }

  private static void draws() {
    drawsByNumbers();
    drawsOfAnyZ();
  }

  private static int next(int z) {
    return (int) (z * 1103515245L + 12345L);
  }

  private static int quake(int z) {
    return (int) ((z & 0xffffffffL) / 256 % 3) - 1;
  }

  /** "Ahead of each STEP, for each GOOD by numbers a draw: a QUAKE by its rest by 3, less 1" */
  private static void drawsByNumbers() {
    for (int goods = 0; goods <= 8; goods++) {
      NeckWorlds x = new NeckWorlds();
      Probe.text(x, 0, "0");
      int z = 1;
      int[] speeds = new int[goods];
      for (int g = 0; g < goods; g++) {
        x.good(10, 20);
      }
      for (int t = 0; t < 4; t++) {
        x.loose(1);
        for (int g = 0; g < goods; g++) {
          z = next(z);
          speeds[g] += quake(z);
          due("QUAKE " + t + " of " + g, x.ofGood(g, 3), speeds[g]);
        }
        due("z", x.count(10), z);
      }
      x.loose(200);
      for (int i = 0; i < 200 * goods; i++) {
        z = next(z);
      }
      due("z behind 200 STEPS", x.count(10), z);
      x.steps(200);
      due("no draws in steps()", x.count(10), z);
      due("STEP", x.count(1), 404);
    }
  }

  /** "z is told ..; each makes it z * 1103515245 + 12345 (an int), and gives z >>> 8"; "seed: z becomes v" */
  private static void drawsOfAnyZ() {
    int was = 1;
    NeckWorlds x = still(10, 20, 0);
    for (int z : new int[] {0, 1, -1, 2, -2, MAX, MIN, MAX - 1, MIN + 1, 1 << 30, 255, 256, -256, 12345, -1000000001}) {
      due("z that was", x.seed(z), was);
      due("z", x.count(10), z);
      x.place(0, 20);
      x.loose(1);
      is("QUAKE by " + z, x, 20 + quake(next(z)), quake(next(z)));
      due("z then", x.count(10), next(z));
      was = next(z);
    }
    // QUAKES are held: at 9 there is none up, at -9 none down
    for (int speed = -9; speed <= 9; speed += 18) {
      for (int z = 0; z < 9; z++) {
        x = world(speed > 0 ? "0-5" : "5", 10, 20, speed);
        x.seed(z);
        x.loose(1);
        int q = quake(next(z));
        int held = Math.max(-9, Math.min(9, speed + q)) + (speed > 0 ? -5 : 5);
        is("QUAKE of " + speed + " by " + z, x, 20 + held, held);
      }
    }
  }

  // ---- Terms 3: VOICES

  private static void voices() {
    voicesOfAllKinds();
    traceOfAllKinds();
    traceOfTheLatest();
  }

  private static int floats(int kind, int x, int n) {
    return kind == 3 || kind == 5 ? (x + n) * 3 : x + n;
  }

  private static int falls(int kind, int x, int n, int m) {
    int stone = (x + n) * 2 - (1 - m);
    return kind == 1 ? stone : kind == 6 ? stone + 2 : floats(kind, x, n) * 2;
  }

  private static int hangs(int kind, int x, int n, int m) {
    return kind == 2 ? m - x : kind == 4 ? (m - x) ^ n : x - m;
  }

  private static int tells(int kind, int x, int n, int m) {
    int both = falls(kind, x, n, m) ^ hangs(kind, x, n, m);
    return kind == 4 ? falls(kind, x, n, m) - both : kind == 5 ? both - (2 + n) * 3 : both;
  }

  /** "VOICES of a GOOD, with a number x (ints that go round); n is the number, m as told" */
  private static void voicesOfAllKinds() {
    int[] xs = {0, 1, -1, 7, 1000, MAX, MIN, MAX - 8, MIN + 9, 1 << 30, -1000000001};
    for (int km = 0; km <= 69; km++) {
      NeckWorlds w = new NeckWorlds();
      for (int i = 0; i < km % 8; i++) {
        w.good(69 - km, 40);
      }
      int n = w.good(km, 0);
      int kind = km / 10;
      int m = km % 10;
      for (int x : xs) {
        due("floats of " + km + " by " + x, w.voice(n, 0, x), floats(kind, x, n));
        due("falls of " + km + " by " + x, w.voice(n, 1, x), falls(kind, x, n, m));
        due("hangs of " + km + " by " + x, w.voice(n, 2, x), hangs(kind, x, n, m));
        due("tells of " + km + " by " + x, w.voice(n, 3, x), tells(kind, x, n, m));
      }
    }
  }

  /** "the numbers of BODIES of the latest voice(), as they began (what stands left is worked out first)" */
  private static void traceOfAllKinds() {
    int[][][] traces = {
      {row(10), row(11, 10), row(12), row(13, 11, 10, 12)},
      {row(10), row(20, 11, 10, 12), row(12), row(13, 20, 11, 10, 12, 12)},
      {row(10), row(11, 10), row(30, 12), row(13, 11, 10, 30, 12)},
      {row(40, 10), row(11, 40, 10), row(12), row(13, 11, 40, 10, 12)},
      {row(10), row(11, 10), row(50, 30, 12), row(51, 11, 10, 13, 11, 10, 50, 30, 12)},
      {row(40, 10), row(11, 40, 10), row(12), row(60, 13, 11, 40, 10, 12, 40, 10)},
      {row(10), row(70, 20, 11, 10, 12), row(12), row(13, 70, 20, 11, 10, 12, 12)},
    };
    for (int kind = 0; kind <= 6; kind++) {
      NeckWorlds x = new NeckWorlds();
      x.good(10 * kind, 0);
      for (int act = 0; act <= 3; act++) {
        x.voice(0, act, act);
        int[] want = traces[kind][act];
        due("BODIES of " + kind + " " + act, x.count(9), want.length);
        for (int i = 0; i < want.length; i++) {
          due("TRACE of " + kind + " " + act + ", " + i, x.trace(i), want[i]);
        }
        due("none behind it", x.trace(want.length), NONE);
        due("none ahead of it", x.trace(-1), NONE);
      }
    }
  }

  private static void traceOfTheLatest() {
    NeckWorlds x = new NeckWorlds();
    due("none at first", x.trace(0), NONE);
    due("none at first", x.count(9), 0);
    x.good(40, 0);
    x.voice(0, 3, 0);
    due("the longest", x.count(9), 9);
    due("refused", x.voice(0, 4, 0), BEYOND);
    due("refused", x.voice(1, 0, 0), BEYOND);
    due("it stays", x.count(9), 9);
    x.become(0, 0);
    x.place(0, 3);
    x.image();
    x.steps(3);
    x.restore();
    due("it stays", x.trace(8), 12);
    x.voice(0, 0, 0);
    due("a shorter one", x.count(9), 1);
    due("nothing is left of the longer", x.trace(1), NONE);
  }

  // ---- IMAGES, what waits, what is counted

  private static void images() {
    imageOfAll();
    imageInPlaceOfOneAhead();
    imageOfNothing();
  }

  /** "All (but SHEETS, THE TRACE, what told() tells, and how often this was done) is kept as an IMAGE" */
  private static void imageOfAll() {
    for (Stage stage : Stage.all()) {
      NeckWorlds x = stage.make();
      NeckWorlds y = stage.make();
      x.image();
      y.image();
      x.good(12, 5);
      for (int g = 0; g < 8; g++) {
        x.become(g, 7 * g + 1);
        x.place(g, 20 + g);
        x.push(g, g);
      }
      x.set(0, 13);
      x.set(1, 8);
      x.set(2, 8);
      x.text(0);
      Probe.text(x, 0, "m-2");
      Probe.text(x, 1, "3-l");
      Probe.tape(x, "9+9");
      x.check();
      x.tell(3);
      x.seed(4);
      x.loose(3);
      x.steps(1);
      int step = y.count(1);
      due(stage.name + ": restore", x.restore(), step);
      due(stage.name + ": the same", x.count(1), step);
      due(stage.name + ": twice", x.restore(), step);
      Probe.holds(stage.name + ": all is as the IMAGE has it", stage.look(x).equals(stage.look(y)));
    }
  }

  /** "in place of one ahead: how often that was done"; "which stays" */
  private static void imageInPlaceOfOneAhead() {
    NeckWorlds x = new NeckWorlds();
    due("none", x.restore(), NONE);
    for (int i = 1; i <= 20; i++) {
      due("how often", x.image(), i);
      x.steps(i);
      due("the latest", x.restore(), x.count(1));
      x.steps(1);
      due("it stays", x.restore(), x.count(1));
      x.good(0, 0);
      due("as many as then", x.restore(), i - 1);
      due("GOODS as then", x.count(0), 0);
      x.steps(1);
    }
    due("how often isn't kept", x.image(), 21);
  }

  private static void imageOfNothing() {
    NeckWorlds x = new NeckWorlds();
    due("once", x.image(), 1);
    due("STEP", x.restore(), 0);
    x.good(11, 3);
    x.sheet(0, 8, 1);
    x.put(0, 0, 3);
    x.voice(0, 0, 0);
    x.first();
    int nones = x.told(2);
    due("STEP", x.restore(), 0);
    due("no GOODS", x.count(0), 0);
    due("SHEETS stay", x.judge(0), 0);
    x.good(11, 3);
    due("SHEETS stay as they are", x.judge(0), -1);
    due("THE TRACE stays", x.trace(0), 10);
    due("told() stays", x.told(2), nones);
    due("how often stays", x.image(), 2);
  }

  private static void counts() {
    waitingUpTo20();
    checksEachPlace();
    countsEachBound();
    toldOfEach();
  }

  /** "One more number waits: how many. FULL: 20 wait." */
  private static void waitingUpTo20() {
    NeckWorlds x = new NeckWorlds();
    for (int round = 0; round < 3; round++) {
      for (int i = 1; i <= 20; i++) {
        due("how many", x.tell(0), i);
        due("they wait", x.count(8), i);
      }
      due("a twenty-first", x.tell(0), FULL);
      due("20 wait", x.count(8), 20);
      due("all are so", x.check(), 0);
      due("none do then", x.count(8), 0);
      due("none wait", x.check(), 0);
    }
    due("told", x.told(4), 3);
    for (int v : new int[] {MIN, -1, 1, MAX, -1000000001}) {
      due("any number waits", x.tell(v), 1);
      due("which isn't so", x.check(), 1);
    }
  }

  /** "FLOORS of all GOODS together behind 1, 2, .. STEPS: 0; else 1 and the place (from 0) of the first that isn't so" */
  private static void checksEachPlace() {
    for (int wrong = 0; wrong <= 20; wrong++) {
      NeckWorlds x = still(10, 0, 1);
      x.good(10, 40);
      for (int i = 0; i < 20; i++) {
        x.tell(41 + i + (i == wrong ? 1 : 0));
      }
      due("the first that isn't so", x.check(), wrong == 20 ? 0 : wrong + 1);
      due("none wait then", x.count(8), 0);
      due("only thought", x.count(1), 0);
      is("only thought", x, 0, 1);
    }
    NeckWorlds x = still(10, 40, 0);
    for (int i = 1; i < 8; i++) {
      x.good(10, 40);
    }
    x.tell(320);
    due("all 8 together", x.check(), 0);
    x.tell(320);
    x.tell(321);
    x.tell(0);
    due("the first of two", x.check(), 2);
  }

  /** "0 GOODS, 1 STEP, .. 10 z (any number). BEYOND." */
  private static void countsEachBound() {
    NeckWorlds x = Stage.full().make();
    int[] want = {8, 9999, x.count(2), 0, 0, 0, 0, 50, 20, 9, x.count(10)};
    for (int g = 0; g < 8; g++) {
      int floor = x.ofGood(g, 2);
      want[3] += floor == 0 ? 1 : 0;
      want[4] += floor == 40 ? 1 : 0;
      want[5] += floor >= 16 && floor <= 24 ? 1 : 0;
      want[6] += x.ofGood(g, 9);
    }
    for (int what = 0; what <= 10; what++) {
      due("count " + what, x.count(what), want[what]);
    }
    due("beyond", x.count(11), BEYOND);
    due("beyond", x.count(-1), BEYOND);
    for (int g = 0; g < 8; g++) {
      x.become(g, 10);
      x.place(g, 0);
    }
    due("all on the ground of SIDE 0", x.count(3), 8);
    due("none on that of SIDE 1", x.count(4), 0);
    for (int g = 0; g < 8; g++) {
      x.place(g, 40);
    }
    due("all on the ground of SIDE 1", x.count(4), 8);
    for (int g = 0; g < 8; g++) {
      x.place(g, 16 + g);
    }
    due("all in THE MIDDLE", x.count(5), 8);
    Probe.text(x, 0, "9");
    due("none AT REST", x.count(6), 0);
  }

  /** "How many acts have answered an ERROR LOW - k (k 1 .. 5); BEYOND: another k (counted, too)" */
  private static void toldOfEach() {
    NeckWorlds x = new NeckWorlds();
    for (int i = 0; i < 8; i++) {
      x.good(0, i);
    }
    for (int times = 1; times <= 9; times++) {
      x.ofGood(8, 0);
      x.restore();
      x.off(0, 1, 0);
      x.good(0, 0);
      x.as(0, 1);
      for (int k = 1; k <= 5; k++) {
        due("told(" + k + ")", x.told(k), times + (k == 1 ? 2 * times - 2 : 0));
      }
      due("another k", x.told(0), BEYOND);
      due("another k", x.told(6), BEYOND);
      due("counted, too", x.told(1), 3 * times);
    }
  }

  // ---- "An object is used for at most 512 calls"

  private static void calls() {
    NeckWorlds x = new NeckWorlds();
    for (int i = 0; i < 511; i++) {
      x.first();
    }
    due("511 calls, then one", x.told(2), 511);
    x = new NeckWorlds();
    for (int i = 1; i <= 512; i++) {
      due("image", x.image(), i);
    }
    x = new NeckWorlds();
    for (int i = 0; i < 256; i++) {
      x.feed('0' + i % 10, 1);
      due("text", x.text(1), 1);
    }
    x = new NeckWorlds();
    for (int i = 0; i < 170; i++) {
      x.tell(i % 2);
      due("what waits", x.check(), i % 2);
      due("sheet", x.sheet(i % 4, 8, i % 41), 1);
    }
    x = new NeckWorlds();
    x.good(40, 0);
    for (int i = 0; i < 255; i++) {
      due("voice", x.voice(0, 2, i), -i);
      due("TRACE", x.count(9), 3);
    }
  }
}
