/**
 * Terms 1 and the promises on GOODS, STEPS and DOORS, read sentence by sentence:
 * each that names a bound has a test of its own, with its words at its head.
 * What is refused, and what that leaves as it is, is RefusedTest's.
 */
public final class GoodsTest {
  private static final int BEYOND = Probe.BEYOND;
  private static final int NONE = Probe.NONE;
  private static final int STATE = Probe.STATE;
  private static final int FULL = Probe.FULL;

  private static void due(String what, long got, long want) {
    Probe.due(what, got, want);
  }

  public static void main(String[] args) {
    goods();
    kinds();
    steps();
    takings();
    doors();
    Probe.end("GoodsTest");
  }

  // ---- Terms 1: FLOORS, GOODS, KINDS

  private static void goods() {
    goodsAtMostEight();
    goodsOfAllKindsAndNumbers();
    floorsFromGroundToGround();
    middleFrom16To24();
    speedAndHomeAtFirst();
    pushesAreHeld();
    pushesOffAreHeld();
    becomesAtItsBounds();
    twoObjectsAreTwo();
  }

  /** "GOODS 0, 1, .. (at most 8)"; "its number"; "FULL" */
  private static void goodsAtMostEight() {
    NeckWorlds x = new NeckWorlds();
    for (int i = 0; i < 8; i++) {
      due("its number", x.good(9 * i, 5 * i), i);
      due("how many", x.count(0), i + 1);
    }
    due("a ninth", x.good(0, 0), FULL);
    due("the eighth is one", x.ofGood(7, 2), 35);
    due("there is no ninth", x.ofGood(8, 2), BEYOND);
    due("an eighth is pushed", x.push(7, 3), 3);
  }

  /** "of KINDS: 0 GOOD; .. 6 ANVIL"; "with a number m (0 to 9)"; "km: 10 times the KIND, and m" */
  private static void goodsOfAllKindsAndNumbers() {
    for (int km = 0; km <= 69; km++) {
      NeckWorlds x = new NeckWorlds();
      due("good " + km, x.good(km, 40), 0);
      due("KIND of " + km, x.ofGood(0, 0), km / 10);
      due("m of " + km, x.ofGood(0, 1), km % 10);
      due("as its KIND, m of " + km, x.as(0, km / 10), km % 10);
    }
  }

  /** "FLOORS are 0 (the ground of SIDE 0) to 40 (the ground of SIDE 1)" */
  private static void floorsFromGroundToGround() {
    NeckWorlds x = new NeckWorlds();
    x.good(0, 7);
    int was = 7;
    for (int floor = 0; floor <= 40; floor++) {
      due("place: where it was", x.place(0, floor), was);
      due("place: FLOOR", x.ofGood(0, 2), floor);
      due("place: HOME, too", x.ofGood(0, 4), floor);
      due("the ground of SIDE 0", x.count(3), floor == 0 ? 1 : 0);
      due("the ground of SIDE 1", x.count(4), floor == 40 ? 1 : 0);
      was = floor;
    }
  }

  /** "16 to 24 are THE MIDDLE" */
  private static void middleFrom16To24() {
    NeckWorlds x = Probe.still(0, 0, 0);
    for (int floor = 0; floor <= 40; floor++) {
      x.place(0, floor);
      boolean isMiddle = floor >= 16 && floor <= 24;
      due("THE MIDDLE at " + floor, x.count(5), isMiddle ? 1 : 0);
      due("FIRST at " + floor, x.first(), isMiddle ? 0 : NONE);
    }
  }

  /** "a SPEED (.. 0 at first) and a HOME (the FLOOR at which it was put)"; "SPEED 0" of place */
  private static void speedAndHomeAtFirst() {
    NeckWorlds x = Probe.still(25, 30, 9);
    x.steps(1);
    Probe.is("held by REACH", x, 37, 0);
    due("HOME isn't where it went", x.ofGood(0, 4), 30);
    x.push(0, -4);
    due("place where it is", x.place(0, 37), 37);
    Probe.is("put again", x, 37, 0);
    due("HOME is new", x.ofGood(0, 4), 37);
    x.good(25, 1);
    due("SPEED at first", x.ofGood(1, 3), 0);
    due("HOME at first", x.ofGood(1, 4), 1);
    x.push(0, -9);
    x.steps(1);
    Probe.is("REACH of the new HOME", x, 30, 0);
  }

  /** "A PUSH of p (-9 to 9): SPEED is more by p (held)": -9 to 9 from each SPEED */
  private static void pushesAreHeld() {
    for (int speed = -9; speed <= 9; speed++) {
      for (int p = -9; p <= 9; p++) {
        NeckWorlds x = new NeckWorlds();
        x.good(0, 20);
        due("pushed from 0", x.push(0, speed), speed);
        due("pushed by " + p, x.push(0, p), Math.max(-9, Math.min(9, speed + p)));
        Probe.is("SPEED then", x, 20, Math.max(-9, Math.min(9, speed + p)));
      }
    }
  }

  /** "a PUSH of p for one, of 0 less p for the other: SPEED of the one then" */
  private static void pushesOffAreHeld() {
    for (int p = -9; p <= 9; p++) {
      NeckWorlds x = new NeckWorlds();
      x.good(60, 40);
      x.good(3, 40);
      x.push(0, 5);
      x.push(1, -5);
      due("off by " + p, x.off(0, 1, p), Math.max(-9, Math.min(9, 5 + p)));
      due("the other by " + -p, x.ofGood(1, 3), Math.max(-9, Math.min(9, -5 - p)));
      due("on its FLOOR", x.ofGood(1, 2), 40);
    }
    NeckWorlds x = new NeckWorlds();
    x.good(0, 20);
    x.good(0, 21);
    due("a FLOOR apart", x.off(0, 1, 0), STATE);
    due("a FLOOR apart", x.off(1, 0, 0), STATE);
    due("and itself", x.off(1, 1, 0), BEYOND);
    // unlike are two of unlike numbers, be they alike in all else
    x.place(1, 20);
    due("on one FLOOR", x.off(1, 0, 2), 2);
    due("the other", x.ofGood(0, 3), -2);
  }

  /** "A GOOD becomes one of a KIND, with m (km; FLOOR, SPEED, HOME stay): the KIND that it was" */
  private static void becomesAtItsBounds() {
    NeckWorlds x = new NeckWorlds();
    x.good(0, 40);
    x.push(0, -9);
    int was = 0;
    for (int km : new int[] {0, 9, 10, 19, 20, 29, 30, 39, 40, 49, 50, 59, 60, 69, 0}) {
      due("the KIND that it was", x.become(0, km), was);
      due("KIND", x.ofGood(0, 0), km / 10);
      due("m", x.ofGood(0, 1), km % 10);
      Probe.is("it stays", x, 40, -9);
      due("HOME stays", x.ofGood(0, 4), 40);
      was = km / 10;
    }
    due("no other is made", x.count(0), 1);
  }

  /** "A new object: All as at first; no GOODS", whatever others do */
  private static void twoObjectsAreTwo() {
    NeckWorlds one = new NeckWorlds();
    NeckWorlds busy = Stage.ordinary().make();
    NeckWorlds two = new NeckWorlds();
    busy.image();
    busy.steps(3);
    String first = Stage.empty().look(new NeckWorlds());
    Probe.holds("made ahead", Stage.empty().look(one).equals(first));
    Probe.holds("made behind", Stage.empty().look(two).equals(first));
    due("told ahead", Stage.told(new NeckWorlds()).compareTo("0 0 0 0 0 "), 0);
    NeckWorlds x = new NeckWorlds();
    due("count of GOODS", x.count(0), 0);
    due("no GOOD 0", x.push(0, 1), BEYOND);
    due("no pairs", x.lifts(-2), 0);
    due("no differences", x.lifts(-1), 0);
    due("AT REST are none", x.steps(1), 0);
  }

  // ---- Terms 1: what a KIND is

  private static void kinds() {
    loadDragReachByNumber();
    pulledByEachPull();
    kindsAboveAreAs();
  }

  /** "LOAD: .. DRAG: .. REACH: .. (Others as the KIND above.)", for m 0 to 9 */
  private static void loadDragReachByNumber() {
    int[][] loads = {
      {1, 2, 3, 4, 5, 6, 7, 8, 9, 10}, {3, 6, 9, 12, 15, 18, 21, 24, 27, 30},
      {1, 2, 3, 4, 5, 6, 7, 8, 9, 10}, {0, 0, 0, 0, 0, 0, 0, 0, 0, 0},
      {6, 7, 8, 9, 10, 11, 12, 13, 14, 15}, {0, 1, 2, 3, 4, 5, 6, 7, 8, 9},
      {23, 26, 29, 32, 35, 38, 41, 44, 47, 50},
    };
    int[][] drags = {{0, 1}, {0, 0}, {0, 1}, {2, 2}, {0, 1}, {1, 1}, {0, 0}};
    int[] ropes = {2, 3, 4, 5, 6, 7, 8, 9, 10, 11};
    int[] halves = {1, 1, 2, 2, 3, 3, 4, 4, 5, 5};
    NeckWorlds x = new NeckWorlds();
    x.good(0, 20);
    for (int km = 0; km <= 69; km++) {
      x.become(0, km);
      int reach = km / 10 == 2 ? ropes[km % 10] : km / 10 == 4 ? halves[km % 10] : 40;
      due("LOAD of " + km, x.ofGood(0, 5), loads[km / 10][km % 10]);
      due("DRAG of " + km, x.ofGood(0, 7), drags[km / 10][km % 2]);
      due("REACH of " + km, x.ofGood(0, 8), reach);
    }
  }

  /** "PULLED (by v): .. GAS: 0 less half of v" (cut). ".. ANVIL: twice as STONE", not held */
  private static void pulledByEachPull() {
    int[] gas = {4, 4, 3, 3, 2, 2, 1, 1, 0, 0, 0, -1, -1, -2, -2, -3, -3, -4, -4};
    for (int kind = 0; kind <= 6; kind++) {
      NeckWorlds x = Probe.world("f-9", 10 * kind + 3, 0, 0);
      for (int floor = 0; floor <= 18; floor++) {
        int v = floor - 9;
        x.place(0, floor);
        int want = kind == 3 || kind == 5 ? gas[floor] : kind == 6 ? 2 * v : v;
        due("PULLED by " + v + " of KIND " + kind, x.ofGood(0, 6), want);
      }
    }
    // PULL is asked for anew by each m and FLOOR
    NeckWorlds x = Probe.world("f*7%19+m*5%19-9", 0, 0, 0);
    for (int m = 0; m <= 9; m++) {
      x.become(0, m);
      for (int floor = 0; floor <= 40; floor++) {
        x.place(0, floor);
        int want = Math.max(-9, Math.min(9, floor * 7 % 19 + m * 5 % 19 - 9));
        due("PULL of m " + m + " at " + floor, x.ofGood(0, 6), want);
      }
    }
  }

  /** "1 STONE, 2 ROPED, 3 GAS under GOOD; 4 PRISONER under ROPED; 5 WATER under GAS; 6 ANVIL under STONE" */
  private static void kindsAboveAreAs() {
    String[] under = {"0", "01", "02", "03", "024", "035", "016"};
    NeckWorlds x = new NeckWorlds();
    x.good(0, 0);
    for (int kind = 0; kind <= 6; kind++) {
      x.become(0, 10 * kind + 9 - kind);
      for (int as = 0; as <= 6; as++) {
        boolean is = under[kind].indexOf('0' + as) >= 0;
        due("KIND " + kind + " as " + as, x.as(0, as), is ? 9 - kind : Probe.KIND);
      }
    }
  }

  // ---- Terms 1: a STEP

  private static void steps() {
    dragIsNotBeyond0();
    speedIsHeldBehindDrag();
    pullIsThatOfTheFloorAhead();
    floorIsHeldFromGroundToGround();
    floorIsHeldWithinReach();
    heldBackFromOutOfReach();
    restsUpToItsDrag();
    restsAtTheEndOfItsReach();
    stepsTellHowManyRest();
  }

  /** "then nearer to 0 by DRAG (not beyond 0)" */
  private static void dragIsNotBeyond0() {
    int[] kms = {10, 3, 50, 30};
    int[] drags = {0, 1, 1, 2};
    for (int k = 0; k < kms.length; k++) {
      for (int speed = -9; speed <= 9; speed++) {
        int want = speed > drags[k] ? speed - drags[k] : speed < -drags[k] ? speed + drags[k] : 0;
        NeckWorlds x = Probe.still(kms[k], 20, speed);
        x.steps(1);
        Probe.is("DRAG " + drags[k] + " from " + speed, x, 20 + want, want);
      }
    }
    // PULLED comes ahead of DRAG: -1 and 1 are 0, which DRAG leaves
    NeckWorlds x = Probe.world("1", 1, 20, -1);
    x.steps(1);
    Probe.is("PULLED, then DRAG", x, 20, 0);
    x = Probe.world("9", 1, 20, -9);
    x.steps(1);
    Probe.is("PULLED, then DRAG", x, 20, 0);
  }

  /** "held within -9 to 9": behind PULLED and DRAG, not ahead of DRAG */
  private static void speedIsHeldBehindDrag() {
    for (int speed = -9; speed <= 9; speed++) {
      NeckWorlds x = Probe.world("9", 10, 20, speed);
      x.steps(1);
      Probe.is("9 more than " + speed, x, 20 + Math.min(9, speed + 9), Math.min(9, speed + 9));
      x = Probe.world("0-9", 10, 20, speed);
      x.steps(1);
      Probe.is("9 less than " + speed, x, 20 + Math.max(-9, speed - 9), Math.max(-9, speed - 9));
      x = Probe.world("9", 60, 20, speed);
      x.steps(1);
      Probe.is("18 more than " + speed, x, 29, 9);
      x = Probe.world("0-9", 60, 20, speed);
      x.steps(1);
      Probe.is("18 less than " + speed, x, 11, -9);
    }
    NeckWorlds x = Probe.world("0-9", 30, 20, 9);
    x.steps(1);
    Probe.is("9 and 4, less 2", x, 29, 9);
    x = Probe.world("9", 30, 20, -9);
    x.steps(1);
    Probe.is("-9 less 4, and 2", x, 11, -9);
    x = Probe.world("0-9", 50, 20, 6);
    x.steps(1);
    Probe.is("6 and 4, less 1", x, 29, 9);
    x = Probe.world("0-9", 50, 20, 5);
    x.steps(1);
    Probe.is("5 and 4, less 1", x, 28, 8);
  }

  /** "SPEED is more by PULLED by PULL (of its FLOOR)", on which it stands ahead of the STEP */
  private static void pullIsThatOfTheFloorAhead() {
    NeckWorlds x = Probe.world("(f=20)*2-(f=22)", 10, 20, 0);
    x.steps(1);
    Probe.is("by PULL of 20", x, 22, 2);
    x.steps(1);
    Probe.is("by PULL of 22", x, 23, 1);
    x.steps(1);
    Probe.is("by PULL of 23", x, 24, 1);
    x = Probe.world("m", 14, 20, 0);
    x.steps(1);
    Probe.is("by PULL of its m", x, 24, 4);
  }

  /** "held within 0 to 40 ..; if it had to be held, SPEED is 0 then" */
  private static void floorIsHeldFromGroundToGround() {
    for (int floor = 0; floor <= 40; floor++) {
      NeckWorlds x = Probe.still(10, 0, 0);
      for (int speed = -9; speed <= 9; speed++) {
        x.place(0, floor);
        x.push(0, speed);
        x.steps(1);
        boolean isHeld = floor + speed < 0 || floor + speed > 40;
        Probe.is(speed + " from " + floor, x, Math.max(0, Math.min(40, floor + speed)), isHeld ? 0 : speed);
      }
    }
  }

  /** "and within REACH of HOME; if it had to be held, SPEED is 0 then" */
  private static void floorIsHeldWithinReach() {
    int[] kms = {24, 28, 20, 40, 46, 42};
    int[] reaches = {6, 10, 2, 1, 4, 2};
    for (int k = 0; k < kms.length; k++) {
      for (int home = 0; home <= 40; home++) {
        NeckWorlds x = Probe.still(kms[k], 0, 0);
        for (int speed = -9; speed <= 9; speed++) {
          x.place(0, home);
          x.push(0, speed);
          x.steps(1);
          int low = Math.max(0, home - reaches[k]);
          int high = Math.min(40, home + reaches[k]);
          boolean isHeld = home + speed < low || home + speed > high;
          Probe.is(kms[k] + " by " + speed + " from " + home, x, Math.max(low, Math.min(high, home + speed)),
              isHeld ? 0 : speed);
        }
      }
    }
  }

  /** "FLOOR, SPEED, HOME stay" of a GOOD that becomes one of less REACH: a STEP holds it */
  private static void heldBackFromOutOfReach() {
    NeckWorlds x = Probe.still(10, 40, -9);
    x.steps(2);
    Probe.is("away from HOME", x, 22, -9);
    due("ROPED now", x.become(0, 20), 1);
    Probe.is("stays out of REACH", x, 22, -9);
    due("isn't AT REST", x.ofGood(0, 9), 0);
    x.steps(1);
    Probe.is("held within REACH of HOME", x, 38, 0);
    due("no TAX", x.count(2), 0);
    x = Probe.still(10, 0, 5);
    x.steps(6);
    due("a PRISONER now", x.become(0, 41), 1);
    x.steps(1);
    Probe.is("held within REACH of HOME", x, 1, 0);
  }

  /** "AT REST: a STEP more would leave FLOOR and SPEED as they are", PULLED no more than DRAG */
  private static void restsUpToItsDrag() {
    int[] kms = {30, 50, 1, 0, 11, 61};
    int[] most = {5, 3, 1, 0, 0, 0};
    for (int k = 0; k < kms.length; k++) {
      for (int v = -9; v <= 9; v++) {
        NeckWorlds x = Probe.world("0" + (v < 0 ? v : "+" + v), kms[k], 20, 0);
        boolean rests = Math.abs(v) <= most[k];
        due(kms[k] + " AT REST by " + v, x.ofGood(0, 9), rests ? 1 : 0);
        due(kms[k] + " AT REST by " + v, x.count(6), rests ? 1 : 0);
        due(kms[k] + " RESTS by " + v, x.rests(0, 0) == 0 ? 1 : 0, rests ? 1 : 0);
      }
    }
  }

  private static void restsAtTheEndOfItsReach() {
    NeckWorlds x = Probe.world("1", 20, 20, 0);
    due("pulled up within REACH", x.ofGood(0, 9), 0);
    x.steps(2);
    Probe.is("held at the end of REACH", x, 22, 0);
    due("pulled beyond REACH", x.ofGood(0, 9), 1);
    x.push(0, -1);
    due("it would lose SPEED", x.ofGood(0, 9), 0);
    x = Probe.still(0, 0, -1);
    due("FLOOR stays, SPEED doesn't", x.ofGood(0, 9), 0);
    x.steps(1);
    due("both stay", x.ofGood(0, 9), 1);
    x = Probe.still(0, 20, 0);
    due("off the grounds, too", x.ofGood(0, 9), 1);
  }

  /** "how many GOODS are AT REST then": none of none, all of 8 */
  private static void stepsTellHowManyRest() {
    for (int many = 0; many <= 8; many++) {
      NeckWorlds x = new NeckWorlds();
      Probe.text(x, 0, "0");
      for (int g = 0; g < 8; g++) {
        x.good(10, 20);
        x.push(g, g < many ? 0 : 1);
      }
      due("AT REST", x.count(6), many);
      due("AT REST then", x.steps(1), many);
      due("AT REST on the ground then", x.steps(20), 8);
    }
  }

  // ---- Terms 1: TAKINGS

  private static void takings() {
    taxOnComingToAGround();
    taxByLoadAndSide();
    taxByTheStepAhead();
    takingsAreHeldOneByOne();
  }

  /** "If it is 0 or 40 then, and wasn't ahead of that" */
  private static void taxOnComingToAGround() {
    for (int side = 0; side <= 1; side++) {
      int up = 2 * side - 1;
      int ground = 40 * side;
      NeckWorlds x = Probe.still(0, ground - 9 * up, 9 * up);
      Probe.text(x, 1, "7");
      x.steps(1);
      Probe.is("just there", x, ground, 9 * up);
      due("it comes there", x.count(2), 7);
      x.steps(1);
      Probe.is("held there", x, ground, 0);
      due("it was there", x.count(2), 7);
      x.push(0, -up);
      x.steps(1);
      due("it leaves", x.count(2), 7);
      x.push(0, 9 * up);
      x.steps(1);
      Probe.is("held, coming", x, ground, 0);
      due("it comes there again", x.count(2), 14);
      x.place(0, 20);
      x.place(0, ground);
      x.steps(1);
      due("put there", x.count(2), 14);
      x.place(0, ground - 9 * up);
      x.push(0, 8 * up);
      x.steps(1);
      due("a FLOOR beside", x.count(2), 14);
      due("made there", x.good(0, ground), 1);
      x.steps(1);
      due("it comes there, the other was", x.count(2), 21);
    }
  }

  /** "without a TEXT l*(s+1)"; "NAMES s SIDE, l LOAD"; "held within -99 to 99" */
  private static void taxByLoadAndSide() {
    int[] kms = {4, 14, 24, 34, 44, 54, 64, 69};
    int[] loads = {5, 15, 5, 0, 10, 4, 35, 50};
    for (int k = 0; k < kms.length; k++) {
      NeckWorlds x = Probe.still(kms[k], 1, -9);
      x.steps(1);
      due("TAX of " + kms[k] + " on SIDE 0", x.count(2), loads[k]);
      x = Probe.still(kms[k], 39, 9);
      x.steps(1);
      due("TAX of " + kms[k] + " on SIDE 1", x.count(2), Math.min(99, 2 * loads[k]));
    }
  }

  /** "t STEP"; "Then STEP is 1 more" */
  private static void taxByTheStepAhead() {
    NeckWorlds x = Probe.still(0, 1, -1);
    Probe.text(x, 1, "t+1");
    due("in thought", x.then(1, 0, 2), 1);
    x.steps(1);
    due("STEP 0", x.count(2), 1);
    due("STEP then", x.count(1), 1);
    x.place(0, 6);
    x.push(0, -1);
    due("in thought", x.then(5, 0, 2), 1);
    due("in thought", x.then(6, 0, 2), 1 + 7);
    x.steps(6);
    due("STEP 6", x.count(2), 1 + 7);
  }

  /** Eight STONES that come to the ground of SIDE 0 again and again, until TAKINGS are held. */
  private static NeckWorlds held(String tax) {
    NeckWorlds x = new NeckWorlds();
    for (int i = 0; i < 8; i++) {
      x.good(10, 0);
    }
    Probe.text(x, 0, "18*(f<1)-9");
    Probe.text(x, 1, tax);
    for (int i = 0; i < 3; i++) {
      x.steps(200);
    }
    Probe.text(x, 0, "0");
    for (int i = 0; i < 8; i++) {
      x.place(i, 20);
    }
    return x;
  }

  /** "TAKINGS (.. held within -99999 to 99999)"; "each GOOD by numbers" */
  private static void takingsAreHeldOneByOne() {
    for (int sign = -1; sign <= 1; sign += 2) {
      NeckWorlds x = held(sign > 0 ? "99" : "0-99");
      due("held", x.count(2), 99999 * sign);
      // GOOD 0 brings what is too much, then GOOD 1 takes 99
      Probe.text(x, 1, sign > 0 ? "99-198*(s=0)" : "198*(s=0)-99");
      x.place(0, 39);
      x.push(0, 1);
      x.place(1, 1);
      x.push(1, -1);
      due("held, then less, in thought", x.then(1, 0, 2), (99999 - 99) * sign);
      x.image();
      x.steps(1);
      due("held, then less", x.count(2), (99999 - 99) * sign);
      x.restore();
      x.place(1, 39);
      x.push(1, 1);
      x.place(0, 1);
      x.push(0, -1);
      x.steps(1);
      due("less, then held", x.count(2), 99999 * sign);
      Probe.text(x, 1, sign > 0 ? "0-1" : "1");
      x.place(2, 1);
      x.push(2, -1);
      x.steps(1);
      due("one off its bound", x.count(2), 99998 * sign);
      Probe.text(x, 1, sign > 0 ? "2" : "0-2");
      x.place(2, 1);
      x.push(2, -1);
      x.steps(1);
      due("held at its bound", x.count(2), 99999 * sign);
    }
  }

  // ---- Terms 1: DOORS

  private static void doors() {
    doorsGoRound();
    doorsAtTheLastStep();
    ringAtItsBounds();
    lineUpBelowRing();
  }

  private static int around(int place, int ring) {
    int at = place;
    while (at < 0) {
      at += ring;
    }
    while (at >= ring) {
      at -= ring;
    }
    return at;
  }

  /** "behind a STEP number t DOOR i stands at the place i and SHEAR times t, modulo RING (0 or more)" */
  private static void doorsGoRound() {
    for (int ring : new int[] {2, 3, 12, 23, 24}) {
      NeckWorlds x = new NeckWorlds();
      x.set(0, ring);
      for (int t = 0; t <= 3; t++) {
        for (int shear = -9; shear <= 9; shear++) {
          x.set(1, shear);
          x.set(2, -shear);
          due("SIDE 0", x.door(0, ring - 1), around(ring - 1 + shear * t, ring));
          due("SIDE 1", x.door(1, 0), around(-shear * t, ring));
        }
        x.steps(1);
      }
    }
  }

  private static void doorsAtTheLastStep() {
    NeckWorlds x = new NeckWorlds();
    for (int i = 0; i < 49; i++) {
      x.steps(200);
    }
    x.steps(199);
    x.set(0, 24);
    x.set(1, 9);
    x.set(2, -9);
    due("SIDE 0 at STEP 9999", x.door(0, 23), around(23 + 89991, 24));
    due("SIDE 1 at STEP 9999", x.door(1, 0), around(-89991, 24));
    due("it lines up", x.lineUp(0, around(2 * 89991, 24)), 0);
    due("in STEPS beyond 9999", x.lineUp(0, around(2 * 89991 + 18, 24)), 1);
  }

  /** "RING (2 to 24; 12 at first): each world has so many DOORS"; "SHEARS (.. -9 to 9; 1 and -1 at first)" */
  private static void ringAtItsBounds() {
    NeckWorlds x = new NeckWorlds();
    int was = 12;
    for (int ring = 2; ring <= 24; ring++) {
      due("RING", x.set(0, ring), was);
      due("the last DOOR", x.door(0, ring - 1), ring - 1);
      due("none behind it", x.door(1, ring), BEYOND);
      due("none behind it", x.lineUp(0, ring), BEYOND);
      due("none behind it", x.lineUp(ring, 0), BEYOND);
      due("none ahead", x.door(0, -1), BEYOND);
      was = ring;
    }
    for (int side = 0; side <= 1; side++) {
      was = side == 0 ? 1 : -1;
      for (int shear = -9; shear <= 9; shear++) {
        due("SHEAR", x.set(1 + side, shear), was);
        was = shear;
      }
    }
    due("RING stays", x.set(0, 2), 24);
    due("SHEAR of SIDE 0 stays", x.set(1, 0), 9);
    due("SHEAR of SIDE 1 stays", x.set(2, 0), 9);
  }

  /** "the least number of STEPS (0 or more, below RING) behind which they do"; "NONE: they never do" */
  private static void lineUpBelowRing() {
    NeckWorlds x = new NeckWorlds();
    x.set(2, 0);
    for (int ring = 2; ring <= 24; ring++) {
      x.set(0, ring);
      due("at once", x.lineUp(ring - 1, ring - 1), 0);
      due("behind 1", x.lineUp(0, 1), 1);
      due("behind RING less 1", x.lineUp(1, 0), ring - 1);
      due("behind RING less 1", x.lineUp(0, ring - 1), ring - 1);
    }
    x.set(1, -1);
    due("the other way", x.lineUp(0, 1), 23);
    x.set(1, 6);
    due("once in 4", x.lineUp(0, 18), 3);
    due("never", x.lineUp(0, 17), NONE);
    due("never", x.lineUp(1, 0), NONE);
    x.set(2, 6);
    due("beside one another", x.lineUp(3, 3), 0);
    due("never", x.lineUp(3, 4), NONE);
    // the STEP counts: DOORS go on from where they are
    x.set(2, 0);
    x.set(1, 1);
    x.steps(5);
    due("behind 5 STEPS they did", x.lineUp(0, 5), 0);
    due("the next but one", x.lineUp(0, 6), 1);
    due("they did a STEP ago", x.lineUp(0, 4), 23);
  }
}
