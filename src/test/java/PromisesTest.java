/** Each promise by itself: ordinary inputs, the edges that the document names, wrong inputs. */
public final class PromisesTest {
  private static final int BEYOND = Probe.BEYOND;
  private static final int NONE = Probe.NONE;
  private static final int STATE = Probe.STATE;
  private static final int FULL = Probe.FULL;
  private static final int KIND = Probe.KIND;
  private static final int MIN = Integer.MIN_VALUE;
  private static final int MAX = Integer.MAX_VALUE;

  private static void due(String what, long got, long want) {
    Probe.due(what, got, want);
  }

  public static void main(String[] args) {
    promise1();
    promise2();
    promise3();
    promise3Rest();
    promise4();
    promise5();
    promise6();
    promise7();
    promise8();
    promise9();
    promise10();
    promise11();
    promise12();
    promise13();
    promise13Opens();
    promise14();
    promise15Steps();
    promise15Takings();
    promise15Errors();
    promise16();
    promise17();
    promise18();
    promise19();
    promise20();
    promise21();
    promise22();
    promise23();
    promise24();
    promise25();
    promise26();
    promise27();
    promise28();
    promise29();
    promise30();
    promise31();
    promise32();
    promise33();
    promise34();
    promise35And36();
    promise37();
    promise38();
    promise39();
    promise40();
    Probe.end("PromisesTest");
  }

  private static void promise1() {
    NeckWorlds x = new NeckWorlds();
    for (int what = 0; what <= 9; what++) {
      due("1 count " + what, x.count(what), 0);
    }
    due("1 z", x.count(10), 1);
    for (int k = 1; k <= 5; k++) {
      due("1 told " + k, x.told(k), 0);
    }
    due("1 ring", x.set(0, 12), 12);
    due("1 shear 0", x.set(1, 1), 1);
    due("1 shear 1", x.set(2, -1), -1);
    due("1 no TEXT of PULL", x.law(0, 40, 0, 0), 4);
    due("1 no TEXT of TAX", x.law(1, 1, 7, 0), 14);
    due("1 no IMAGE", x.restore(), NONE);
    for (int s = 0; s < 4; s++) {
      due("1 no SHEET", x.judge(s), NONE);
    }
    due("1 no GOODS", x.ofGood(0, 0), BEYOND);
  }

  private static void promise2() {
    NeckWorlds x = new NeckWorlds();
    due("2 km below", x.good(-1, 0), BEYOND);
    due("2 km above", x.good(70, 0), BEYOND);
    due("2 floor below", x.good(0, -1), BEYOND);
    due("2 floor above", x.good(0, 41), BEYOND);
    due("2 none made", x.count(0), 0);
    due("2 least", x.good(0, 0), 0);
    due("2 most", x.good(69, 40), 1);
    due("2 kind", x.ofGood(1, 0), 6);
    due("2 m", x.ofGood(1, 1), 9);
    due("2 floor", x.ofGood(1, 2), 40);
    due("2 speed", x.ofGood(1, 3), 0);
    due("2 home", x.ofGood(1, 4), 40);
    for (int i = 2; i < 8; i++) {
      due("2 number", x.good(i, i), i);
    }
    due("2 full", x.good(0, 0), FULL);
    due("2 beyond ahead of full", x.good(0, 41), BEYOND);
    due("2 still 8", x.count(0), 8);
    due("2 extremes", x.good(MIN, MAX), BEYOND);
  }

  private static void promise3() {
    int[][] wanted = {
      // km, LOAD, PULLED by 3, DRAG, REACH
      {4, 5, 3, 0, 40}, {5, 6, 3, 1, 40},
      {14, 15, 3, 0, 40}, {15, 18, 3, 0, 40},
      {24, 5, 3, 0, 6}, {25, 6, 3, 1, 7},
      {34, 0, -1, 2, 40}, {35, 0, -1, 2, 40},
      {44, 10, 3, 0, 3}, {45, 11, 3, 1, 3},
      {54, 4, -1, 1, 40}, {55, 5, -1, 1, 40},
      {64, 35, 6, 0, 40}, {65, 38, 6, 0, 40},
    };
    for (int[] w : wanted) {
      NeckWorlds x = new NeckWorlds();
      x.good(w[0], 36);
      due("3 kind of " + w[0], x.ofGood(0, 0), w[0] / 10);
      due("3 m of " + w[0], x.ofGood(0, 1), w[0] % 10);
      due("3 floor of " + w[0], x.ofGood(0, 2), 36);
      due("3 load of " + w[0], x.ofGood(0, 5), w[1]);
      due("3 pulled of " + w[0], x.ofGood(0, 6), w[2]);
      due("3 drag of " + w[0], x.ofGood(0, 7), w[3]);
      due("3 reach of " + w[0], x.ofGood(0, 8), w[4]);
    }
    NeckWorlds x = new NeckWorlds();
    x.good(30, 5);
    due("3 gas pulled by -3 is cut", x.ofGood(0, 6), 1);
    due("3 what below", x.ofGood(0, -1), BEYOND);
    due("3 what above", x.ofGood(0, 10), BEYOND);
    due("3 good below", x.ofGood(-1, 0), BEYOND);
    due("3 good above", x.ofGood(1, 0), BEYOND);
    x.push(0, -4);
    due("3 speed", x.ofGood(0, 3), -4);
    Probe.text(x, 0, "m*3-f");
    due("3 pulled by a TEXT", x.ofGood(0, 6), 2);
    x.become(0, 9);
    due("3 pulled, held", x.ofGood(0, 6), 9);
    // PULL of one m and FLOOR is never that of others
    Probe.text(x, 0, "(f*2+m)%19-9");
    for (int m = 0; m < 10; m++) {
      x.become(0, m);
      for (int floor = 0; floor <= 40; floor += 3) {
        x.place(0, floor);
        due("3 pulled " + m + " at " + floor, x.ofGood(0, 6), (floor * 2 + m) % 19 - 9);
      }
    }
  }

  private static void promise3Rest() {
    NeckWorlds x = new NeckWorlds();
    x.good(0, 20);
    due("3 rests at 20", x.ofGood(0, 9), 1);
    x.push(0, 1);
    due("3 moves", x.ofGood(0, 9), 0);
    due("3 thought only", x.ofGood(0, 2), 20);
    x.good(0, 0);
    due("3 rests on the ground", x.ofGood(1, 9), 1);
    x.push(1, -1);
    due("3 speed would be 0", x.ofGood(1, 9), 0);
    x.good(20, 38);
    due("3 off 38", x.ofGood(2, 9), 0);
    x.good(1, 16);
    due("3 too little pull", x.ofGood(3, 9), 1);
    x.good(34, 40);
    due("3 gas dragged enough", x.ofGood(4, 9), 1);
  }

  private static void promise4() {
    NeckWorlds x = new NeckWorlds();
    x.good(23, 10);
    x.push(0, 5);
    due("4 good below", x.become(-1, 0), BEYOND);
    due("4 good above", x.become(1, 0), BEYOND);
    due("4 km below", x.become(0, -1), BEYOND);
    due("4 km above", x.become(0, 70), BEYOND);
    due("4 was", x.become(0, 69), 2);
    due("4 kind", x.ofGood(0, 0), 6);
    due("4 m", x.ofGood(0, 1), 9);
    due("4 floor stays", x.ofGood(0, 2), 10);
    due("4 speed stays", x.ofGood(0, 3), 5);
    due("4 home stays", x.ofGood(0, 4), 10);
    due("4 was then", x.become(0, 0), 6);
    // A rope that is too short by now pulls back at the next STEP.
    x.place(0, 0);
    Probe.text(x, 0, "0");
    x.push(0, 9);
    x.steps(1);
    x.become(0, 40);
    due("4 out of reach stays", x.ofGood(0, 2), 9);
    due("4 out of reach isn't at rest", x.ofGood(0, 9), 0);
    x.steps(1);
    due("4 pulled back", x.ofGood(0, 2), 1);
    due("4 speed lost", x.ofGood(0, 3), 0);
  }

  private static void promise5() {
    int[] above = {-1, 0, 0, 0, 2, 3, 1};
    for (int kind = 0; kind < 7; kind++) {
      NeckWorlds x = new NeckWorlds();
      x.good(10 * kind + 7, 3);
      for (int as = 0; as < 7; as++) {
        boolean is = as == kind || as == 0 || as == above[kind];
        due("5 " + kind + " as " + as, x.as(0, as), is ? 7 : KIND);
      }
      due("5 kind below", x.as(0, -1), BEYOND);
      due("5 kind above", x.as(0, 7), BEYOND);
      due("5 good below", x.as(-1, 0), BEYOND);
      due("5 good above", x.as(1, 0), BEYOND);
    }
  }

  private static void promise6() {
    NeckWorlds x = new NeckWorlds();
    x.good(20, 10);
    x.push(0, 4);
    due("6 good above", x.place(1, 0), BEYOND);
    due("6 good below", x.place(-1, 0), BEYOND);
    due("6 floor below", x.place(0, -1), BEYOND);
    due("6 floor above", x.place(0, 41), BEYOND);
    due("6 nothing changed", x.ofGood(0, 3), 4);
    due("6 was", x.place(0, 40), 10);
    due("6 floor", x.ofGood(0, 2), 40);
    due("6 speed", x.ofGood(0, 3), 0);
    due("6 home", x.ofGood(0, 4), 40);
    due("6 no TAX for it", x.count(2), 0);
    due("6 to 0", x.place(0, 0), 40);
  }

  private static void promise7() {
    NeckWorlds x = new NeckWorlds();
    x.good(0, 20);
    due("7 good above", x.push(1, 0), BEYOND);
    due("7 good below", x.push(-1, 0), BEYOND);
    due("7 p above", x.push(0, 10), BEYOND);
    due("7 p below", x.push(0, -10), BEYOND);
    due("7 p 0", x.push(0, 0), 0);
    due("7 up", x.push(0, 6), 6);
    due("7 held above", x.push(0, 9), 9);
    due("7 down", x.push(0, -9), 0);
    due("7 down", x.push(0, -5), -5);
    due("7 held below", x.push(0, -5), -9);
    due("7 floor stays", x.ofGood(0, 2), 20);
  }

  private static void promise8() {
    NeckWorlds x = new NeckWorlds();
    x.good(0, 20);
    x.good(0, 20);
    x.good(0, 21);
    due("8 one below", x.off(-1, 1, 0), BEYOND);
    due("8 one above", x.off(3, 1, 0), BEYOND);
    due("8 other below", x.off(0, -1, 0), BEYOND);
    due("8 other above", x.off(0, 3, 0), BEYOND);
    due("8 the same", x.off(1, 1, 0), BEYOND);
    due("8 p above", x.off(0, 1, 10), BEYOND);
    due("8 p below", x.off(0, 1, -10), BEYOND);
    due("8 beyond ahead of state", x.off(0, 2, 10), BEYOND);
    due("8 not on one FLOOR", x.off(0, 2, 1), STATE);
    due("8 nothing changed", x.ofGood(0, 3), 0);
    due("8 off", x.off(0, 1, 4), 4);
    due("8 the other", x.ofGood(1, 3), -4);
    due("8 held", x.off(1, 0, -6), -9);
    due("8 the other held", x.ofGood(0, 3), 9);
    due("8 p 9", x.off(0, 1, -9), 0);
    due("8 the other by 9", x.ofGood(1, 3), 0);
  }

  private static void promise9() {
    NeckWorlds x = new NeckWorlds();
    due("9 what below", x.set(-1, 5), BEYOND);
    due("9 what above", x.set(3, 5), BEYOND);
    due("9 ring below", x.set(0, 1), BEYOND);
    due("9 ring above", x.set(0, 25), BEYOND);
    due("9 shear below", x.set(1, -10), BEYOND);
    due("9 shear above", x.set(1, 10), BEYOND);
    due("9 shear below", x.set(2, -10), BEYOND);
    due("9 shear above", x.set(2, 10), BEYOND);
    due("9 ring", x.set(0, 2), 12);
    due("9 ring", x.set(0, 24), 2);
    due("9 ring", x.set(0, 12), 24);
    due("9 shear 0", x.set(1, -9), 1);
    due("9 shear 0", x.set(1, 9), -9);
    due("9 shear 1", x.set(2, 9), -1);
    due("9 shear 1", x.set(2, -9), 9);
    due("9 each by itself", x.set(1, 0), 9);
  }

  private static void promise10() {
    NeckWorlds x = new NeckWorlds();
    due("10 now", x.door(0, 5), 5);
    due("10 last door", x.door(1, 11), 11);
    due("10 side below", x.door(-1, 0), BEYOND);
    due("10 side above", x.door(2, 0), BEYOND);
    due("10 door below", x.door(0, -1), BEYOND);
    due("10 door above", x.door(0, 12), BEYOND);
    x.steps(8);
    due("10 sheared", x.door(0, 5), 1);
    due("10 sheared back", x.door(1, 5), 9);
    x.set(0, 24);
    x.set(1, 9);
    due("10 by the STEP, not from now on", x.door(0, 23), 23);
    due("10 by the STEP", x.door(0, 1), 1);
    x.set(1, -9);
    x.steps(1);
    due("10 -81 around", x.door(0, 0), 15);
  }

  private static void promise11() {
    NeckWorlds x = new NeckWorlds();
    due("11 at once", x.lineUp(7, 7), 0);
    due("11 i below", x.lineUp(-1, 0), BEYOND);
    due("11 i above", x.lineUp(12, 0), BEYOND);
    due("11 j below", x.lineUp(0, -1), BEYOND);
    due("11 j above", x.lineUp(0, 12), BEYOND);
    due("11 behind 1", x.lineUp(0, 2), 1);
    due("11 behind 5", x.lineUp(2, 0), 5);
    due("11 never", x.lineUp(0, 1), NONE);
    x.steps(1);
    due("11 from now on", x.lineUp(0, 2), 0);
    due("11 from now on", x.lineUp(2, 0), 4);
    x.set(0, 5);
    x.set(1, 0);
    x.set(2, 0);
    due("11 no shear", x.lineUp(1, 1), 0);
    due("11 no shear, never", x.lineUp(1, 2), NONE);
    x.set(1, 1);
    due("11 the last STEP of the RING", x.lineUp(0, 0), 4);
  }

  private static void promise12() {
    NeckWorlds x = new NeckWorlds();
    due("12 n below", x.feed(1, 0), BEYOND);
    due("12 n above", x.feed(1, 9), BEYOND);
    due("12 n far below", x.feed(1, MIN), BEYOND);
    due("12 three", x.feed(Probe.word("f-9xyz", 0, 6), 3), 3);
    due("12 count", x.count(7), 3);
    due("12 the lowest first", x.text(0), 1);
    due("12 as a TEXT", x.law(0, 4, 0, 0), -5);
    for (int i = 1; i <= 6; i++) {
      due("12 eight", x.feed(-1L, 8), 8 * i);
    }
    due("12 beyond ahead of full", x.feed(0, 9), BEYOND);
    due("12 full", x.feed(0, 3), FULL);
    due("12 nothing came", x.count(7), 48);
    due("12 up to 50", x.feed(0, 2), 50);
    due("12 full", x.feed(0, 1), FULL);
    due("12 high bytes are bytes", x.text(0), -10);
    due("12 the highest byte", x.feed(Probe.word("1*1+1+f+", 0, 8), 8), 8);
    due("12 goes on", x.feed(Probe.word("1", 0, 1), 1), 9);
    due("12 all of it", x.text(0), 1);
    due("12 worked out", x.law(0, 2, 0, 0), 5);
  }

  private static void fault(String text, int use, int fault) {
    NeckWorlds x = new NeckWorlds();
    due("13 " + text, Probe.text(x, use, text), fault < 0 ? 1 : -10 - fault);
    due("13 THE TAPE behind " + text, x.count(7), 0);
  }

  private static void promise13() {
    fault("f", 0, -1);
    fault("m", 0, -1);
    fault("s", 0, 0);
    fault("s+l*t", 1, -1);
    fault("f", 1, 0);
    fault("m", 1, 0);
    fault("", 0, 0);
    fault("f+", 0, 2);
    fault("f+*", 0, 2);
    fault("1234", 0, -1);
    fault("12345", 0, 4);
    fault("12a", 0, 2);
    fault("ff", 0, 1);
    fault("1<2", 0, -1);
    fault("1<2<3", 0, 3);
    fault("1=2>3", 0, 3);
    fault("1<2&3>4|5=6", 0, -1);
    fault("(1<2)<3", 0, -1);
    fault("1<(2<3", 0, 6);
    fault("()", 0, 1);
    fault("1)", 0, 1);
    fault("-1", 0, 0);
    fault("1-!f", 0, -1);
    fault(" 1", 0, 0);
    fault("1 ", 0, 1);
    fault("F", 0, 0);
    fault("1f", 0, 1);
    fault("f(", 0, 1);
    fault("!", 0, 1);
    fault("1&&1", 0, 2);
    fault("1" + (char) 200, 0, 1);
    fault("1111+1111+1111+1111+1111+1111+1111+1111+1111+11111", 0, 49);
    fault("1111+1111+1111+1111+1111+1111+1111+1111+1111+1111+", 0, 50);
    promise13Tape();
  }

  private static void promise13Tape() {
    NeckWorlds x = new NeckWorlds();
    Probe.tape(x, "f");
    due("13 use below", x.text(-1), BEYOND);
    due("13 use above", x.text(2), BEYOND);
    due("13 THE TAPE stays", x.count(7), 1);
    due("13 taken", x.text(0), 1);
    due("13 a fault", Probe.text(x, 0, "m+"), -12);
    due("13 the one ahead stays", x.law(0, 7, 0, 0), 7);
    due("13 no ERROR", x.told(1), 2);
    due("13 another", Probe.text(x, 0, "m"), 1);
    due("13 in its place", x.law(0, 7, 3, 0), 3);
    due("13 the other USE stays", x.law(1, 0, 7, 0), 7);
    // what stood on THE TAPE ahead is gone
    due("13 a longer one", Probe.text(x, 0, "(4)*1234"), 1);
    due("13 no ) any more", Probe.text(x, 0, "(4"), -12);
    due("13 no * any more", Probe.text(x, 0, "(4)"), 1);
    due("13 worked out", x.law(0, 0, 0, 0), 4);
    due("13 no digits any more", Probe.text(x, 0, "f"), 1);
    Probe.text(x, 0, "1234");
    due("13 no digits any more", Probe.text(x, 0, "5"), 1);
    due("13 worked out", x.law(0, 0, 0, 0), 5);
  }

  private static void promise13Opens() {
    fault("!!!!!f", 0, -1);
    fault("!!!!!!f", 0, 5);
    fault("(((((f)))))", 0, -1);
    fault("((((((f))))))", 0, 5);
    fault("!(!(!f))", 0, -1);
    fault("!(!(!(f)))", 0, 5);
    fault("!!!!!(1)", 0, 5);
    fault("!!!!1+!!!!!1", 0, -1);
    fault("((((1))))+(((((1)))))", 0, -1);
    fault("(!1+!(!!1))", 0, -1);
    fault("(((((1)!", 0, 7);
  }

  private static void value(String text, int a, int b, int want) {
    NeckWorlds x = new NeckWorlds();
    due("14 reads " + text, Probe.text(x, 0, text), 1);
    due("14 " + text, x.law(0, a, b, 0), want);
  }

  private static void promise14() {
    value("7-2-1", 0, 0, 4);
    value("2+3*2", 0, 0, 8);
    value("(2+3)*2-3", 0, 0, 7);
    value("17/3", 0, 0, 5);
    value("17%3", 0, 0, 2);
    value("f/2", -7, 0, -3);
    value("f%4", -7, 0, -3);
    value("8/f", 0, 0, 0);
    value("8%f", 0, 0, 0);
    value("f/m", MIN, -1, -9);
    value("f%m", MIN, -1, 0);
    value("f*m+1", 65536, 65536, 1);
    value("f+1<0", MAX, 0, 1);
    value("1<2", 0, 0, 1);
    value("2<2", 0, 0, 0);
    value("2=2", 0, 0, 1);
    value("2=1", 0, 0, 0);
    value("2>1", 0, 0, 1);
    value("2>2", 0, 0, 0);
    value("f&m", 2, 4, 1);
    value("f&m", 2, 0, 0);
    value("f|m", 0, 0, 0);
    value("f|m", 0, -3, 1);
    value("!f", 5, 0, 0);
    value("!f", 0, 0, 1);
    value("!f+3", 0, 0, 4);
    value("1|0&0", 0, 0, 1);
    value("1=1+1", 0, 0, 0);
    value("2*3%4", 0, 0, 2);
    value("9/2*2", 0, 0, 8);
    value("1-1<1&1", 0, 0, 1);
    value("9", 0, 0, 9);
    value("10", 0, 0, 9);
    value("0-9", 0, 0, -9);
    value("0-10", 0, 0, -9);
    value("0007", 0, 0, 7);
    value("9999-9990", 0, 0, 9);
    NeckWorlds x = new NeckWorlds();
    due("14 use below", x.law(-1, 0, 0, 0), BEYOND);
    due("14 use above", x.law(2, 0, 0, 0), BEYOND);
    due("14 PULL cut up", x.law(0, 24, 0, 0), 0);
    due("14 PULL cut down", x.law(0, 16, 0, 0), 0);
    due("14 PULL", x.law(0, 15, 0, 0), -1);
    due("14 PULL held", x.law(0, 66, 0, 0), 9);
    due("14 PULL held", x.law(0, -100, 0, 0), -9);
    due("14 TAX", x.law(1, 0, 41, 5), 41);
    due("14 TAX of SIDE 1", x.law(1, 1, 41, 5), 82);
    due("14 TAX held", x.law(1, 1, 50, 5), 99);
    due("14 TAX held", x.law(1, 1, -50, 5), -99);
    due("14 TAX wraps", x.law(1, MAX, 1, 0), -99);
    Probe.text(x, 1, "s*100+l*10+t");
    due("14 NAMES in order", x.law(1, 0, 4, 3), 43);
    due("14 NAMES in order", x.law(1, 1, 0, -50), 50);
    due("14 held by its USE", x.law(1, 1, 4, 3), 99);
    due("14 PULL stays", x.law(0, 15, 0, 0), -1);
  }

  private static void promise15Steps() {
    NeckWorlds x = new NeckWorlds();
    due("15 without GOODS", x.steps(200), 0);
    due("15 STEP", x.count(1), 200);
    x.good(0, 30);
    due("15 pulled, then moved", x.steps(1), 0);
    due("15 speed", x.ofGood(0, 3), 2);
    due("15 floor", x.ofGood(0, 2), 32);
    due("15 by the FLOOR that it had", x.steps(1), 0);
    due("15 speed", x.ofGood(0, 3), 4);
    due("15 floor", x.ofGood(0, 2), 36);
    due("15 on the ground", x.steps(1), 1);
    due("15 held, so SPEED is lost", x.ofGood(0, 3), 0);
    due("15 floor", x.ofGood(0, 2), 40);
    // DRAG ahead of the hold of SPEED; a FLOOR that is just reached keeps SPEED
    x = new NeckWorlds();
    Probe.text(x, 0, "1");
    x.good(1, 0);
    x.push(0, 9);
    x.steps(1);
    due("15 9 + 1 - 1", x.ofGood(0, 3), 9);
    x.good(0, 31);
    x.push(1, 8);
    x.steps(1);
    due("15 just reached", x.ofGood(1, 2), 40);
    due("15 keeps SPEED", x.ofGood(1, 3), 9);
    // DRAG never turns SPEED around
    x = new NeckWorlds();
    Probe.text(x, 0, "0");
    x.good(30, 20);
    x.push(0, 1);
    x.good(30, 20);
    x.push(1, -1);
    x.good(30, 20);
    x.push(2, -5);
    x.steps(1);
    due("15 not beyond 0", x.ofGood(0, 2), 20);
    due("15 not beyond 0", x.ofGood(1, 2), 20);
    due("15 nearer to 0", x.ofGood(2, 3), -3);
    due("15 nearer to 0", x.ofGood(2, 2), 17);
    // REACH on both sides of HOME
    x = new NeckWorlds();
    Probe.text(x, 0, "0");
    x.good(20, 20);
    x.push(0, 2);
    x.good(20, 20);
    x.push(1, -3);
    x.good(42, 20);
    x.push(2, 9);
    x.steps(1);
    due("15 just within REACH", x.ofGood(0, 2), 22);
    due("15 keeps SPEED", x.ofGood(0, 3), 2);
    due("15 held by REACH", x.ofGood(1, 2), 18);
    due("15 loses SPEED", x.ofGood(1, 3), 0);
    due("15 held by half REACH", x.ofGood(2, 2), 22);
    x.good(68, 30);
    Probe.text(x, 0, "0-9");
    x.push(3, 9);
    x.steps(1);
    due("15 twice pulled, held", x.ofGood(3, 2), 21);
  }

  private static void promise15Takings() {
    NeckWorlds x = new NeckWorlds();
    x.good(4, 1);
    x.steps(1);
    due("15 down", x.ofGood(0, 2), 0);
    due("15 TAX of SIDE 0", x.count(2), 5);
    x.steps(5);
    due("15 once", x.count(2), 5);
    x.good(4, 39);
    x.steps(1);
    due("15 TAX of SIDE 1", x.count(2), 15);
    Probe.text(x, 1, "t+s*50");
    x.place(0, 1);
    x.steps(1);
    due("15 t is STEP ahead of its end", x.count(2), 22);
    x.place(1, 39);
    x.steps(1);
    due("15 t and s", x.count(2), 80);
    Probe.text(x, 1, "0-l");
    x.place(1, 39);
    x.steps(1);
    due("15 less", x.count(2), 75);
    x.place(0, 0);
    x.push(0, 9);
    x.steps(1);
    due("15 away from the ground", x.count(2), 75);
    promise15TakingsHeld();
  }

  private static void promise15TakingsHeld() {
    NeckWorlds x = new NeckWorlds();
    for (int i = 0; i < 8; i++) {
      x.good(10, 1);
      x.push(i, -1);
    }
    Probe.text(x, 1, "99");
    // each is thrown up behind a ground visit: TAX on all STEPS but those away
    Probe.text(x, 0, "18*(f<1)-9");
    int before = 0;
    for (int i = 0; i < 13; i++) {
      x.steps(200);
      due("15 grows", x.count(2) > before || before == 99999 ? 1 : 0, 1);
      before = x.count(2);
    }
    due("15 held above", x.count(2), 99999);
    Probe.text(x, 1, "0-99");
    for (int i = 0; i < 26; i++) {
      x.steps(200);
    }
    due("15 held below", x.count(2), -99999);
  }

  private static void promise15Errors() {
    NeckWorlds x = new NeckWorlds();
    due("15 n below", x.steps(0), BEYOND);
    due("15 n above", x.steps(201), BEYOND);
    due("15 n far below", x.steps(MIN), BEYOND);
    for (int i = 0; i < 49; i++) {
      x.steps(200);
    }
    due("15 STEP", x.count(1), 9800);
    due("15 above 9999", x.steps(200), STATE);
    due("15 beyond ahead of state", x.steps(201), BEYOND);
    due("15 loose too", x.loose(200), STATE);
    due("15 loose beyond ahead of state", x.loose(201), BEYOND);
    due("15 nothing changed", x.count(1), 9800);
    x.image();
    due("15 up to 9999", x.steps(199), 0);
    due("15 STEP", x.count(1), 9999);
    due("15 none more", x.steps(1), STATE);
    due("15 none more by draws", x.loose(1), STATE);
    due("15 back", x.restore(), 9800);
    due("15 up to 9999 by draws", x.loose(199), 0);
    due("15 STEP", x.count(1), 9999);
  }

  private static void promise16() {
    NeckWorlds x = new NeckWorlds();
    due("16 n below", x.loose(0), BEYOND);
    due("16 n above", x.loose(201), BEYOND);
    due("16 no GOODS", x.loose(200), 0);
    due("16 no draws", x.count(10), 1);
    Probe.text(x, 0, "0");
    x.good(0, 20);
    x.good(0, 20);
    x.good(0, 20);
    due("16 one STEP", x.loose(1), expectedRest(x, 1, 3));
    due("16 STEP", x.count(1), 201);
    int z = 1;
    for (int i = 0; i < 3; i++) {
      z = z * 1103515245 + 12345;
      int quake = (z >>> 8) % 3 - 1;
      due("16 QUAKE of " + i, x.ofGood(i, 3), quake);
      due("16 FLOOR of " + i, x.ofGood(i, 2), 20 + quake);
    }
    due("16 z", x.count(10), z);
    // held: SPEED 9 can't be more; then the PULL of its FLOOR
    x = new NeckWorlds();
    Probe.text(x, 0, "0-2");
    x.good(0, 0);
    x.push(0, 9);
    x.seed(seedFor(1));
    x.loose(1);
    due("16 held ahead of PULL", x.ofGood(0, 3), 7);
  }

  /** How many of n GOODS at 20 without PULL get no QUAKE by the draws from z on. */
  private static int expectedRest(NeckWorlds x, int z, int n) {
    int rest = 0;
    for (int i = 0; i < n; i++) {
      z = z * 1103515245 + 12345;
      rest += (z >>> 8) % 3 == 1 ? 1 : 0;
    }
    return rest;
  }

  private static int seedFor(int quake) {
    for (int z = 0; z < 1000; z++) {
      if (((z * 1103515245 + 12345) >>> 8) % 3 - 1 == quake) {
        return z;
      }
    }
    return 0;
  }

  private static void promise17() {
    NeckWorlds x = new NeckWorlds();
    x.good(4, 30);
    x.good(0, 20);
    due("17 n below", x.then(-1, 0, 0), BEYOND);
    due("17 n above", x.then(201, 0, 0), BEYOND);
    due("17 good below", x.then(0, -1, 0), BEYOND);
    due("17 good above", x.then(0, 2, 2), BEYOND);
    due("17 what below", x.then(0, 0, -1), BEYOND);
    due("17 what above", x.then(0, 0, 3), BEYOND);
    due("17 now", x.then(0, 0, 0), 30);
    due("17 floor", x.then(2, 0, 0), 36);
    due("17 speed", x.then(2, 0, 1), 4);
    due("17 speed lost", x.then(3, 0, 1), 0);
    due("17 takings", x.then(3, 0, 2), 10);
    due("17 takings, as told by another", x.then(200, 1, 2), 10);
    due("17 only thought", x.ofGood(0, 2), 30);
    due("17 only thought", x.count(1), 0);
    due("17 only thought", x.count(2), 0);
    Probe.text(x, 1, "t");
    x.steps(1);
    due("17 t goes on", x.then(9, 0, 2), 2);
    for (int i = 0; i < 49; i++) {
      x.steps(200);
    }
    due("17 STEP may be above 9999 in thought", x.then(200, 0, 0), 40);
  }

  private static void promise18() {
    NeckWorlds x = new NeckWorlds();
    x.good(0, 30);
    x.good(0, 20);
    due("18 good below", x.rests(-1, 0), BEYOND);
    due("18 good above", x.rests(2, 0), BEYOND);
    due("18 what below", x.rests(0, -1), BEYOND);
    due("18 what above", x.rests(0, 2), BEYOND);
    due("18 behind", x.rests(0, 0), 3);
    due("18 where", x.rests(0, 1), 40);
    due("18 at once", x.rests(1, 0), 0);
    due("18 at once", x.rests(1, 1), 20);
    x.push(1, 1);
    due("18 pushed", x.rests(1, 1), 40);
    due("18 only thought", x.ofGood(1, 3), 1);
    Probe.text(x, 0, "20-f");
    due("18 never", x.rests(0, 0), NONE);
    due("18 never", x.rests(0, 1), NONE);
    // 40 STEPS of speed 1 and one that is held: SPEED 1 by 1 down to 0 with DRAG 1
    x.become(0, 1);
    Probe.text(x, 0, "f<40");
    x.place(0, 0);
    due("18 pulled against DRAG", x.rests(0, 0), 0);
    x.push(0, 1);
    due("18 long", x.rests(0, 0), 41);
    due("18 long", x.rests(0, 1), 40);
    // an orbit found by search: 5 7 12 .. rests behind 201 STEPS
    x = new NeckWorlds();
    due("18 reads", Probe.text(x, 0, "(31-f)/5+6325%(f+58)%2-3769%(f+31)%6"), 1);
    x.good(0, 12);
    x.push(0, 5);
    due("18 behind 199", x.rests(0, 0), 199);
    x.place(0, 7);
    x.push(0, 2);
    due("18 behind 200", x.rests(0, 0), 200);
    due("18 behind 200", x.rests(0, 1), x.then(200, 0, 0));
    x.place(0, 5);
    x.push(0, -3);
    due("18 behind 201 is too late", x.rests(0, 0), NONE);
    due("18 behind 201 is too late", x.rests(0, 1), NONE);
    x.steps(1);
    due("18 by then it isn't", x.rests(0, 0), 200);
  }

  private static void promise19() {
    NeckWorlds x = new NeckWorlds();
    due("19 no GOODS", x.first(), NONE);
    x.good(0, 0);
    x.good(0, 40);
    due("19 none in THE MIDDLE", x.first(), NONE);
    x.place(0, 20);
    due("19 the first of all", x.first(), 0);
    x.place(0, 0);
    x.good(0, 15);
    due("19 on the way to a ground", x.first(), NONE);
    x.good(39, 27);
    due("19 stays outside", x.first(), NONE);
    Probe.text(x, 0, "0");
    x.good(1, 19);
    x.push(4, 3);
    due("19 behind 3 STEPS", x.first(), 4);
    x.good(1, 24);
    x.push(5, -2);
    due("19 sooner", x.first(), 5);
    x.good(1, 18);
    x.push(6, 2);
    due("19 of several the least", x.first(), 5);
    x.good(1, 16);
    due("19 at once, at its edge", x.first(), 7);
    x.place(7, 25);
    due("19 beyond its edge", x.first(), 5);
    x.place(7, 24);
    due("19 its other edge", x.first(), 7);
    x.place(7, 15);
    due("19 beyond its other edge", x.first(), 5);
  }

  private static void promise20() {
    NeckWorlds x = new NeckWorlds();
    x.good(0, 20);
    x.good(0, 0);
    due("20 good below", x.over(-1, 0, 0), BEYOND);
    due("20 good above", x.over(2, 0, 0), BEYOND);
    due("20 side below", x.over(0, -1, 0), BEYOND);
    due("20 side above", x.over(0, 2, 0), BEYOND);
    due("20 p below", x.over(0, 0, -10), BEYOND);
    due("20 p above", x.over(0, 0, 10), BEYOND);
    due("20 rests", x.over(0, 0, 0), NONE);
    due("20 the other way", x.over(0, 0, 5), NONE);
    due("20 up", x.over(0, 1, 5), 4);
    due("20 down", x.over(0, 0, -5), 4);
    due("20 there already", x.over(1, 0, 9), 0);
    due("20 not thrown so far", x.over(1, 1, 9), NONE);
    due("20 only thought", x.ofGood(0, 3), 0);
    // 0 up to 40 by 4, then back: first on the ground of SIDE 0 behind 0
    Probe.text(x, 0, "0");
    due("20 crosses all", x.over(1, 1, 4), 10);
    x.push(0, 9);
    due("20 SPEED is held", x.over(0, 1, 9), 3);
    due("20 SPEED counts", x.over(0, 0, -9), NONE);
    x.push(0, -9);
    due("20 speed 1", x.over(0, 1, 1), 20);
    promise20Edge();
  }

  /** An orbit that takes so long to come to SIDE 1; each is found by search, and seen by then(). */
  private static void promise20Edge() {
    NeckWorlds x = new NeckWorlds();
    x.good(0, 36);
    Probe.text(x, 0, "(14-f)/3+f%6");
    due("20 behind 99", x.over(0, 1, 2), 99);
    x.place(0, 34);
    due("20 behind 100", x.over(0, 1, 4), 100);
    x.place(0, 30);
    due("20 behind 101 is too late", x.over(0, 1, 9), NONE);
    x.push(0, 9);
    due("20 not there by 100", x.then(100, 0, 0) == 40 ? 1 : 0, 0);
    due("20 there by 101", x.then(101, 0, 0), 40);
  }

  private static void promise21() {
    NeckWorlds x = new NeckWorlds();
    x.good(0, 20);
    x.good(0, 0);
    x.good(20, 20);
    due("21 good below", x.soonest(-1, 0, 0), BEYOND);
    due("21 good above", x.soonest(3, 0, 0), BEYOND);
    due("21 side below", x.soonest(0, -1, 0), BEYOND);
    due("21 side above", x.soonest(0, 2, 0), BEYOND);
    due("21 what below", x.soonest(0, 0, -1), BEYOND);
    due("21 what above", x.soonest(0, 0, 2), BEYOND);
    due("21 by none", x.soonest(2, 0, 0), NONE);
    due("21 by none", x.soonest(2, 1, 1), NONE);
    due("21 there already", x.soonest(1, 0, 0), 0);
    due("21 there already", x.soonest(1, 0, 1), 0);
    due("21 up", x.soonest(0, 1, 1), 3);
    due("21 up: 20+6, then 1 and 3 more", x.soonest(0, 1, 0), 6);
    due("21 down", x.soonest(0, 0, 0), -6);
    Probe.text(x, 0, "0");
    due("21 of several the least size", x.soonest(0, 1, 0), 7);
    due("21 of several the least size", x.soonest(0, 0, 0), -7);
    x.push(0, 9);
    due("21 9, 8 and 7 are as soon", x.soonest(0, 1, 0), 0);
    due("21 only thought", x.ofGood(0, 3), 9);
    x.place(0, 20);
    x.push(0, -8);
    due("21 9 at most", x.soonest(0, 1, 0), 9);
    due("21 then SPEED is 1", x.soonest(0, 1, 1), 20);
    x.push(0, -1);
    due("21 9 isn't enough", x.soonest(0, 1, 0), NONE);
    x.place(0, 20);
    x.push(0, 8);
    due("21 -9 at most", x.soonest(0, 0, 0), -9);
    // an ANVIL that only -1 (20 19 28 37 40) and 1 (20 21 30 39 40) bring there
    x.become(0, 60);
    x.place(0, 20);
    due("21 reads", Probe.text(x, 0, "5*(f=19|f=21)-9*!(f>36|f=30|f=28|f>18&f<22)"), 1);
    due("21 by -1", x.over(0, 1, -1), 4);
    due("21 by 1", x.over(0, 1, 1), 4);
    due("21 of two that below 0", x.soonest(0, 1, 0), -1);
    due("21 of two that below 0", x.soonest(0, 1, 1), 4);
  }

  private static void promise22() {
    NeckWorlds x = new NeckWorlds();
    x.good(0, 20);
    x.good(0, 0);
    x.good(20, 20);
    due("22 good below", x.least(-1, 0), BEYOND);
    due("22 good above", x.least(3, 0), BEYOND);
    due("22 side below", x.least(0, -1), BEYOND);
    due("22 side above", x.least(0, 2), BEYOND);
    due("22 by none", x.least(2, 0), NONE);
    due("22 there already", x.least(1, 0), 0);
    due("22 up", x.least(0, 1), 1);
    due("22 down", x.least(0, 0), -1);
    x.place(0, 17);
    due("22 none is needed for less", x.least(0, 0), -1);
    x.place(0, 15);
    due("22 none is needed", x.least(0, 0), 0);
    due("22 the other way", x.least(0, 1) > 1 ? 1 : 0, 1);
    due("22 only thought", x.ofGood(0, 3), 0);
    Probe.text(x, 0, "0");
    x.place(0, 20);
    x.push(0, -8);
    due("22 9 at most", x.least(0, 1), 9);
    x.push(0, -1);
    due("22 9 isn't enough", x.least(0, 1), NONE);
    x.place(0, 20);
    x.push(0, 8);
    due("22 -9 at most", x.least(0, 0), -9);
    x.push(0, 1);
    due("22 -9 isn't enough", x.least(0, 0), NONE);
    // Off 20 all is drawn up, either way
    Probe.text(x, 0, "9*!(f=20)");
    x.place(0, 20);
    due("22 of two that below 0", x.least(0, 1), -1);
    due("22 as by 1", x.over(0, 1, 1) > 0 ? 1 : 0, 1);
  }

  private static void promise23() {
    NeckWorlds x = new NeckWorlds();
    due("23 no pairs", x.lifts(-2), 0);
    due("23 no differences", x.lifts(-1), 0);
    due("23 what below", x.lifts(-3), BEYOND);
    due("23 what above", x.lifts(0), BEYOND);
    x.good(1, 0);
    x.good(5, 0);
    x.good(4, 40);
    due("23 one pair", x.lifts(-2), 1);
    due("23 the nearest", x.lifts(-1), 1);
    due("23 none", x.lifts(0), -1);
    due("23 its other one", x.lifts(1), 2);
    due("23 its other one", x.lifts(2), 1);
    due("23 what above", x.lifts(3), BEYOND);
    x.good(7, 40);
    due("23 two pairs", x.lifts(-2), 2);
    due("23 together", x.lifts(-1), 5);
    due("23 of several the first", x.lifts(0), 2);
    due("23 of several the first", x.lifts(1), 3);
    x.good(3, 20);
    due("23 not on a ground", x.lifts(4), -1);
    due("23 no change", x.lifts(-2), 2);
    promise23Ties();
  }

  private static void promise23Ties() {
    NeckWorlds x = new NeckWorlds();
    // all alike: the first of SIDE 0 take the least of SIDE 1, the last goes without
    x.good(3, 40);
    x.good(3, 0);
    x.good(3, 40);
    x.good(3, 0);
    x.good(3, 0);
    due("23 two of three", x.lifts(-2), 2);
    due("23 alike", x.lifts(-1), 0);
    due("23 first", x.lifts(1), 0);
    due("23 second", x.lifts(3), 2);
    due("23 last without", x.lifts(4), -1);
    due("23 back", x.lifts(0), 1);
    due("23 back", x.lifts(2), 3);
    // as many as can be, however far they are apart
    x = new NeckWorlds();
    x.good(30, 0);
    x.good(69, 40);
    due("23 far apart", x.lifts(-1), 50);
    // the least together, though the first has a nearer one
    x = new NeckWorlds();
    x.good(4, 0);
    x.good(6, 0);
    x.good(5, 40);
    x.good(0, 40);
    due("23 together", x.lifts(-1), 5);
    due("23 the first gives way", x.lifts(0), 3);
    // 4 on each ground
    x = new NeckWorlds();
    int[] kms = {9, 3, 6, 1};
    for (int km : kms) {
      x.good(km, 0);
    }
    for (int km : kms) {
      x.good(10 - km, 40);
    }
    due("23 four pairs", x.lifts(-2), 4);
    due("23 together", x.lifts(-1), 2);
    due("23 9 with 9", x.lifts(0), 7);
    due("23 3 with 4", x.lifts(1), 6);
    due("23 6 with 7", x.lifts(2), 5);
    due("23 1 with 1", x.lifts(3), 4);
  }

  private static void promise24() {
    NeckWorlds x = new NeckWorlds();
    x.good(0, 20);
    x.push(0, 7);
    due("24 good below", x.rolled(-1, 0, 0), BEYOND);
    due("24 good above", x.rolled(1, 0, 0), BEYOND);
    due("24 sheet below", x.rolled(0, -1, 0), BEYOND);
    due("24 sheet above", x.rolled(0, 4, 0), BEYOND);
    due("24 what below", x.rolled(0, 0, -1), BEYOND);
    due("24 what above", x.rolled(0, 0, 2), BEYOND);
    due("24 missing", x.rolled(0, 0, 0), NONE);
    x.sheet(0, 8, 0);
    due("24 an empty SHEET", x.rolled(0, 0, 0), -9);
    due("24 an empty SHEET", x.rolled(0, 0, 1), 19);
    Probe.fill(x, 0, 8, 23);
    due("24 one", x.rolled(0, 0, 0), 3);
    due("24 one", x.rolled(0, 0, 1), 1);
    Probe.fill(x, 0, 8, 23, 27);
    due("24 none", x.rolled(0, 0, 0), NONE);
    due("24 none", x.rolled(0, 0, 1), NONE);
    Probe.fill(x, 1, 32, 26, 33, 40, 40);
    due("24 longer", x.rolled(0, 1, 0), 6);
    x.place(0, 36);
    Probe.fill(x, 2, 16, 40);
    due("24 several", x.rolled(0, 2, 0), 1);
    due("24 several", x.rolled(0, 2, 1), 9);
    due("24 only thought", x.ofGood(0, 3), 0);
    x.become(0, 30);
    Probe.fill(x, 2, 8, 36);
    due("24 with its DRAG", x.rolled(0, 2, 0), -1);
    due("24 with its DRAG", x.rolled(0, 2, 1), 5);
  }

  private static void promise25() {
    NeckWorlds x = new NeckWorlds();
    x.good(63, 30);
    due("25 good below", x.whose(-1, 0), BEYOND);
    due("25 good above", x.whose(1, 0), BEYOND);
    due("25 sheet below", x.whose(0, -1), BEYOND);
    due("25 sheet above", x.whose(0, 4), BEYOND);
    due("25 missing", x.whose(0, 3), NONE);
    x.sheet(0, 8, 0);
    due("25 an empty SHEET", x.whose(0, 0), 0);
    Probe.fill(x, 0, 8, 34, 40);
    due("25 an ANVIL", x.whose(0, 0), 6);
    Probe.fill(x, 0, 8, 31);
    due("25 a GOOD, not a ROPED one", x.whose(0, 0), 0);
    Probe.fill(x, 0, 8, 32);
    due("25 a STONE", x.whose(0, 0), 1);
    Probe.fill(x, 0, 8, 30);
    due("25 GAS", x.whose(0, 0), 3);
    x.push(0, 9);
    Probe.fill(x, 0, 8, 35);
    due("25 ROPED, with its SPEED", x.whose(0, 0), 2);
    Probe.fill(x, 0, 8, 32);
    due("25 a PRISONER", x.whose(0, 0), 4);
    Probe.fill(x, 0, 8, 36);
    due("25 GAS with SPEED", x.whose(0, 0), 3);
    Probe.fill(x, 0, 8, 37);
    due("25 WATER", x.whose(0, 0), 5);
    Probe.fill(x, 0, 8, 38);
    due("25 none", x.whose(0, 0), NONE);
    due("25 only thought", x.ofGood(0, 0), 6);
  }

  private static void promise26() {
    NeckWorlds x = new NeckWorlds();
    x.good(0, 20);
    due("26 good below", x.odds(-1, 0, 0, 0), BEYOND);
    due("26 good above", x.odds(1, 0, 0, 0), BEYOND);
    due("26 side below", x.odds(0, -1, 0, 0), BEYOND);
    due("26 side above", x.odds(0, 2, 0, 0), BEYOND);
    due("26 n below", x.odds(0, 0, -1, 0), BEYOND);
    due("26 n above", x.odds(0, 0, 6, 0), BEYOND);
    due("26 part below", x.odds(0, 0, 0, -1), BEYOND);
    due("26 part above", x.odds(0, 0, 0, 2), BEYOND);
    due("26 no QUAKE: 0", x.odds(0, 1, 0, 0), 0);
    due("26 no QUAKE: by 1", x.odds(0, 1, 0, 1), 1);
    due("26 one QUAKE", x.odds(0, 1, 1, 0), 1);
    due("26 one QUAKE", x.odds(0, 1, 1, 1), 3);
    due("26 one QUAKE, down", x.odds(0, 0, 1, 0), 1);
    // of nine ways (0, 0) and (1, -1), (-1, 1) stay within THE MIDDLE
    due("26 two QUAKES", x.odds(0, 1, 2, 0), 1);
    due("26 two QUAKES", x.odds(0, 1, 2, 1), 3);
    due("26 only thought", x.ofGood(0, 3), 0);
    x.place(0, 0);
    due("26 sure", x.odds(0, 0, 0, 0), 1);
    due("26 sure", x.odds(0, 0, 0, 1), 1);
    due("26 sure in lowest terms", x.odds(0, 0, 5, 0), 1);
    due("26 sure in lowest terms", x.odds(0, 0, 5, 1), 1);
    due("26 never", x.odds(0, 1, 5, 0), 0);
    due("26 never", x.odds(0, 1, 5, 1), 1);
    // without PULL from 20: SPEED 1 reaches 40 behind 20 STEPS, and stays with SPEED 0
    Probe.text(x, 0, "0");
    x.place(0, 20);
    due("26 sum above 0", x.odds(0, 1, 5, 0), 32);
    due("26 of 81", x.odds(0, 1, 5, 1), 81);
    // SPEED is held: at 9 a QUAKE more is none
    x.place(0, 0);
    x.push(0, 9);
    due("26 from 9", x.odds(0, 1, 1, 0), 1);
    // 9 9 0 0 9 9 0 0 ..: on the ground behind 50 STEPS, but not behind 49, then not behind 51
    Probe.text(x, 0, "18*(f<1)-9");
    x.place(0, 9);
    x.push(0, 9);
    due("26 not behind 49", x.then(49, 0, 0), 9);
    due("26 behind 50", x.odds(0, 0, 0, 0), 1);
    x.place(0, 9);
    due("26 not behind 51", x.then(51, 0, 0), 9);
    due("26 behind 50", x.odds(0, 0, 0, 0), 1);
  }

  private static void promise27() {
    NeckWorlds x = new NeckWorlds();
    due("27 at first", x.seed(MIN), 1);
    due("27 any", x.seed(BEYOND), MIN);
    due("27 what an ERROR looks like", x.seed(0), BEYOND);
    due("27 no ERROR", x.told(1), 0);
    due("27 z", x.count(10), 0);
  }

  private static int voice(int km, int number, int act, int x) {
    NeckWorlds w = new NeckWorlds();
    for (int i = 0; i < number; i++) {
      w.good(0, 0);
    }
    w.good(km, 0);
    return w.voice(number, act, x);
  }

  private static void promise28() {
    NeckWorlds x = new NeckWorlds();
    x.good(3, 0);
    due("28 good below", x.voice(-1, 0, 0), BEYOND);
    due("28 good above", x.voice(1, 0, 0), BEYOND);
    due("28 act below", x.voice(0, -1, 0), BEYOND);
    due("28 act above", x.voice(0, 4, 0), BEYOND);
    // GOOD 5 with m 3, x 10: floats 15, falls 30, hangs 7, tells 30 ^ 7
    due("28 10", voice(3, 5, 0, 10), 15);
    due("28 11", voice(3, 5, 1, 10), 30);
    due("28 12", voice(3, 5, 2, 10), 7);
    due("28 13", voice(3, 5, 3, 10), 30 ^ 7);
    // STONE: falls 30 - hangs(1) = 30 + 2
    due("28 20", voice(13, 5, 1, 10), 32);
    due("28 13 of a STONE", voice(13, 5, 3, 10), 32 ^ 7);
    // ROPED: hangs -7
    due("28 30", voice(23, 5, 2, 10), -7);
    due("28 13 of a ROPED one", voice(23, 5, 3, 10), 30 ^ -7);
    // GAS: floats 45, falls 90
    due("28 40", voice(33, 5, 0, 10), 45);
    due("28 11 of GAS", voice(33, 5, 1, 10), 90);
    // PRISONER: hangs -7 ^ 5; tells 30 - (30 ^ hangs)
    due("28 50", voice(43, 5, 2, 10), -7 ^ 5);
    due("28 51", voice(43, 5, 3, 10), 30 - (30 ^ (-7 ^ 5)));
    // WATER: tells (90 ^ 7) - floats(2) = 21
    due("28 60", voice(53, 5, 3, 10), (90 ^ 7) - 21);
    due("28 WATER hangs as GOOD", voice(53, 5, 2, 10), 7);
    // ANVIL: falls as STONE with 11: 32 + 2
    due("28 70", voice(63, 5, 1, 10), 34);
    due("28 13 of an ANVIL", voice(63, 5, 3, 10), 34 ^ 7);
    due("28 goes round", voice(0, 7, 0, MAX), MIN + 6);
    due("28 goes round", voice(30, 0, 0, 1 << 30), (1 << 30) * 3);
    due("28 goes round", voice(29, 0, 2, MIN), -(MIN - 9));
    due("28 what an ERROR looks like", x.voice(0, 0, STATE), STATE);
    due("28 no ERROR", x.told(3), 0);
  }

  private static void traced(int km, int act, int... bodies) {
    NeckWorlds x = new NeckWorlds();
    x.good(km, 0);
    x.voice(0, act, 1);
    due("29 how many " + km + " " + act, x.count(9), bodies.length);
    for (int i = 0; i < bodies.length; i++) {
      due("29 " + km + " " + act + " " + i, x.trace(i), bodies[i]);
    }
    due("29 none more", x.trace(bodies.length), NONE);
  }

  private static void promise29() {
    traced(3, 0, 10);
    traced(3, 3, 13, 11, 10, 12);
    traced(13, 1, 20, 11, 10, 12);
    traced(23, 3, 13, 11, 10, 30, 12);
    traced(33, 1, 11, 40, 10);
    traced(43, 2, 50, 30, 12);
    traced(43, 3, 51, 11, 10, 13, 11, 10, 50, 30, 12);
    traced(53, 3, 60, 13, 11, 40, 10, 12, 40, 10);
    traced(63, 1, 70, 20, 11, 10, 12);
    traced(63, 3, 13, 70, 20, 11, 10, 12, 12);
    NeckWorlds x = new NeckWorlds();
    due("29 at first", x.trace(0), NONE);
    x.good(3, 0);
    x.voice(0, 3, 0);
    due("29 below", x.trace(-1), NONE);
    due("29 far", x.trace(40), NONE);
    due("29 far", x.trace(MAX), NONE);
    due("29 an ERROR leaves it", x.voice(1, 0, 0), BEYOND);
    due("29 an ERROR leaves it", x.trace(1), 11);
    x.voice(0, 2, 0);
    due("29 the latest", x.trace(0), 12);
    due("29 the latest", x.trace(1), NONE);
  }

  private static void promise30() {
    NeckWorlds x = new NeckWorlds();
    due("30 sheet below", x.sheet(-1, 8, 1), BEYOND);
    due("30 sheet above", x.sheet(4, 8, 1), BEYOND);
    due("30 bits", x.sheet(0, 7, 1), BEYOND);
    due("30 bits", x.sheet(0, -8, 1), BEYOND);
    due("30 bits", x.sheet(0, 64, 1), BEYOND);
    due("30 sheet ahead of state", x.sheet(4, 8, -1), BEYOND);
    due("30 bits ahead of state", x.sheet(0, 9, -1), BEYOND);
    due("30 n below", x.sheet(0, 8, -1), STATE);
    due("30 n far below", x.sheet(0, 8, MIN), STATE);
    due("30 n above", x.sheet(0, 8, 41), BEYOND);
    due("30 n far above", x.sheet(0, 32, MAX), BEYOND);
    due("30 still missing", x.judge(0), NONE);
    due("30 n most", x.sheet(0, 8, 40), 1);
    due("30 last", x.put(0, 39, 5), 1);
    due("30 none more", x.put(0, 40, 5), BEYOND);
    due("30 n least", x.sheet(1, 16, 0), 1);
    due("30 there", x.judge(1), -1);
    due("30 n doesn't matter", x.sheet(1, 0, -5), 1);
    due("30 missing", x.judge(1), NONE);
    due("30 n doesn't matter", x.sheet(0, 0, 99), 1);
    due("30 missing", x.judge(0), NONE);
    x.sheet(0, 32, 1);
    x.good(0, 0);
    due("30 all 0", x.judge(0), -1);
    x.put(0, 0, 7);
    due("30 put", x.judge(0), 0);
    x.sheet(0, 32, 1);
    due("30 all 0 again", x.judge(0), -1);
  }

  private static void promise31() {
    NeckWorlds x = new NeckWorlds();
    due("31 sheet below", x.put(-1, 0, 0), BEYOND);
    due("31 sheet above", x.put(4, 0, 0), BEYOND);
    due("31 missing ahead of number", x.put(0, -1, 0), NONE);
    x.sheet(0, 8, 2);
    x.sheet(1, 16, 1);
    x.sheet(2, 32, 1);
    due("31 number below", x.put(0, -1, 0), BEYOND);
    due("31 number above", x.put(0, 2, 0), BEYOND);
    due("31 put", x.put(0, 1, 5), 1);
    x.good(0, 7);
    for (int s = 0; s < 3; s++) {
      x.put(s, 0, 7);
    }
    x.put(0, 0, 256 + 7);
    due("31 8 bits", x.judge(0), 1);
    x.put(0, 0, 128 + 7);
    due("31 8 bits, the highest of them", x.judge(0), 0);
    x.put(1, 0, 65536 + 7);
    due("31 16 bits", x.judge(1), -1);
    x.put(1, 0, 32768 + 7);
    due("31 16 bits, the highest of them", x.judge(1), 0);
    x.put(1, 0, 256 + 7);
    due("31 more than 8 bits", x.judge(1), 0);
    x.put(2, 0, 65536 + 7);
    due("31 32 bits", x.judge(2), 0);
    x.put(2, 0, 7);
    due("31 32 bits", x.judge(2), -1);
  }

  private static void promise32() {
    NeckWorlds x = new NeckWorlds();
    due("32 sheet below", x.move(-1, 0, 0, 0, 0), BEYOND);
    due("32 sheet above", x.move(4, 0, 0, 0, 0), BEYOND);
    due("32 other below", x.move(0, 0, -1, 0, 0), BEYOND);
    due("32 other above", x.move(0, 0, 4, 0, 0), BEYOND);
    due("32 one is missing", x.move(0, -1, 1, 0, 0), NONE);
    Probe.fill(x, 0, 8, 1, 2, 3, 4);
    due("32 the other is missing", x.move(0, -1, 1, 0, 0), NONE);
    due("32 the one is missing", x.move(1, -1, 0, 0, 0), NONE);
    x.sheet(1, 16, 4);
    due("32 unlike bits ahead of the places", x.move(0, -1, 1, 0, 0), KIND);
    x.sheet(1, 8, 3);
    due("32 n below", x.move(0, 0, 1, 0, -1), BEYOND);
    due("32 i below", x.move(0, -1, 1, 0, 1), BEYOND);
    due("32 j below", x.move(0, 0, 1, -1, 1), BEYOND);
    due("32 more than the one has", x.move(0, 3, 1, 0, 2), BEYOND);
    due("32 more than the other has", x.move(0, 0, 1, 0, 4), BEYOND);
    due("32 no number i", x.move(0, 5, 1, 0, 0), BEYOND);
    due("32 far", x.move(0, MAX, 1, 0, 1), BEYOND);
    due("32 far", x.move(0, 1, 1, 1, MAX), BEYOND);
    due("32 far", x.move(0, 0, 1, MAX, MAX), BEYOND);
    due("32 none at the end", x.move(0, 4, 1, 3, 0), 0);
    due("32 all", x.move(0, 1, 1, 0, 3), 3);
    x.good(0, 2);
    x.good(0, 3);
    x.good(0, 4);
    due("32 came", x.judge(1), -1);
    // within one SHEET both ways as they all were
    due("32 down", x.move(0, 1, 0, 0, 3), 3);
    x.good(0, 4);
    due("32 2 3 4 4", x.judge(0), -1);
    due("32 up", x.move(0, 0, 0, 1, 3), 3);
    x.place(1, 2);
    x.place(2, 3);
    due("32 2 2 3 4", x.judge(0), -1);
  }

  private static void promise33() {
    NeckWorlds x = new NeckWorlds();
    due("33 sheet below", x.pushes(-1), BEYOND);
    due("33 sheet above", x.pushes(4), BEYOND);
    due("33 missing", x.pushes(0), NONE);
    Probe.fill(x, 0, 8, 5, -9, 9, 10);
    due("33 no GOODS", x.pushes(0), 0);
    x.good(0, 20);
    x.good(0, 20);
    due("33 two GOODS", x.pushes(0), 2);
    due("33 pushed", x.ofGood(0, 3), 5);
    due("33 pushed, below 0 in 8 bits", x.ofGood(1, 3), -9);
    due("33 held", x.pushes(0), 2);
    due("33 held", x.ofGood(0, 3), 9);
    for (int i = 2; i < 6; i++) {
      x.good(0, 20);
    }
    due("33 up to 10", x.pushes(0), 3);
    due("33 9", x.ofGood(2, 3), 9);
    due("33 not pushed", x.ofGood(3, 3), 0);
    due("33 no ERROR", x.told(1), 2);
    Probe.fill(x, 1, 16, 0, 0, -1, -10, 1);
    due("33 up to -10", x.pushes(1), 3);
    due("33 below 0 in 16 bits", x.ofGood(2, 3), 8);
    due("33 none behind", x.ofGood(4, 3), 0);
    Probe.fill(x, 2, 32, -2);
    due("33 fewer numbers than GOODS", x.pushes(2), 1);
    due("33 below 0 in 32 bits", x.ofGood(0, 3), 7);
    x.sheet(3, 32, 0);
    due("33 an empty SHEET", x.pushes(3), 0);
  }

  private static void promise34() {
    NeckWorlds x = new NeckWorlds();
    due("34 sheet below", x.judge(-1), BEYOND);
    due("34 sheet above", x.judge(4), BEYOND);
    due("34 missing", x.judge(3), NONE);
    x.sheet(0, 8, 0);
    due("34 none of none", x.judge(0), -1);
    x.good(0, 3);
    due("34 one lacks", x.judge(0), 0);
    x.good(0, 5);
    Probe.fill(x, 0, 8, 3, 5, 0);
    due("34 one too many", x.judge(0), 2);
    Probe.fill(x, 0, 8, 3, 5);
    due("34 all", x.judge(0), -1);
    Probe.fill(x, 0, 8, 3, 6);
    due("34 the second", x.judge(0), 1);
    Probe.fill(x, 0, 8, 4, 6);
    due("34 the first", x.judge(0), 0);
    Probe.fill(x, 0, 8, 3);
    due("34 one lacks", x.judge(0), 1);
    Probe.fill(x, 1, 8, 3, 5, 7, 7, 7, 7, 7, 7, 7);
    for (int i = 2; i < 8; i++) {
      x.good(0, 7);
    }
    due("34 nine for eight", x.judge(1), 8);
    Probe.fill(x, 1, 8, 3, 5, 7, 7, 7, 7, 7, 7);
    due("34 eight", x.judge(1), -1);
    due("34 moves nothing", x.ofGood(1, 2), 5);
  }

  private static void promise35And36() {
    NeckWorlds x = new NeckWorlds();
    due("36 none", x.restore(), NONE);
    x.good(23, 30);
    x.push(0, 2);
    x.steps(3);
    x.set(0, 7);
    x.set(1, 3);
    x.set(2, 4);
    x.seed(99);
    x.tell(5);
    Probe.text(x, 0, "m-1");
    Probe.text(x, 1, "l+1");
    Probe.tape(x, "f+1");
    due("35 once", x.image(), 1);
    int floor = x.ofGood(0, 2);
    int speed = x.ofGood(0, 3);
    x.good(0, 0);
    x.become(0, 11);
    x.place(0, 1);
    x.steps(4);
    x.set(0, 8);
    x.set(1, 0);
    x.set(2, 0);
    x.seed(7);
    x.tell(6);
    x.text(0);
    Probe.text(x, 1, "1");
    Probe.tape(x, "m");
    x.sheet(0, 8, 1);
    x.voice(0, 0, 0);
    int beyonds = x.told(1);
    x.good(-1, 0);
    due("36 STEP", x.restore(), 3);
    due("36 GOODS", x.count(0), 1);
    due("36 STEP", x.count(1), 3);
    due("36 TAKINGS", x.count(2), 0);
    due("36 kind", x.ofGood(0, 0), 2);
    due("36 m", x.ofGood(0, 1), 3);
    due("36 floor", x.ofGood(0, 2), floor);
    due("36 speed", x.ofGood(0, 3), speed);
    due("36 home", x.ofGood(0, 4), 30);
    due("36 PULL", x.law(0, 9, 5, 0), 4);
    due("36 PULL of its FLOOR", x.ofGood(0, 6), 2);
    due("36 TAX", x.law(1, 9, 5, 0), 6);
    due("36 THE TAPE", x.count(7), 3);
    due("36 THE TAPE", x.text(0), 1);
    due("36 THE TAPE", x.law(0, 5, 0, 0), 6);
    due("36 z", x.count(10), 99);
    due("36 numbers that wait", x.count(8), 1);
    due("36 the first of them", x.check(), 1);
    due("36 RING", x.set(0, 7), 7);
    due("36 SHEAR 0", x.set(1, 3), 3);
    due("36 SHEAR 1", x.set(2, 4), 4);
    due("36 SHEETS stay", x.judge(0), 0);
    due("36 THE TRACE stays", x.trace(0), 10);
    due("36 told() stays", x.told(1), beyonds + 1);
    x.steps(1);
    due("36 the IMAGE stays", x.restore(), 3);
    due("36 as kept", x.count(8), 1);
    due("35 how often isn't kept", x.image(), 2);
    x.steps(2);
    due("35 in place of the one ahead", x.image(), 3);
    x.steps(1);
    due("36 the latest", x.restore(), 5);
    restoreNewGood();
    restoreFull();
  }

  private static void restoreFull() {
    NeckWorlds x = new NeckWorlds();
    for (int i = 0; i < 8; i++) {
      x.good(i, 18 + i);
    }
    x.image();
    Probe.text(x, 0, "7");
    Probe.text(x, 1, "7");
    x.loose(9);
    due("36 STEP", x.restore(), 0);
    due("36 no TEXT of PULL", x.law(0, 30, 0, 0), 2);
    due("36 no TEXT of TAX", x.law(1, 1, 9, 0), 18);
    due("36 z", x.count(10), 1);
    for (int i = 0; i < 8; i++) {
      due("36 m of " + i, x.ofGood(i, 1), i);
      due("36 floor of " + i, x.ofGood(i, 2), 18 + i);
      due("36 speed of " + i, x.ofGood(i, 3), 0);
    }
  }

  private static void restoreNewGood() {
    NeckWorlds x = new NeckWorlds();
    x.image();
    x.good(0, 20);
    x.push(0, 5);
    due("36 STEP", x.restore(), 0);
    due("36 made again", x.good(12, 3), 0);
    due("36 SPEED at first", x.ofGood(0, 3), 0);
    due("36 HOME at first", x.ofGood(0, 4), 3);
    // what waits in the IMAGE isn't what waits now
    x = new NeckWorlds();
    x.tell(2);
    x.tell(3);
    x.image();
    x.check();
    x.tell(4);
    due("36 STEP", x.restore(), 0);
    x.good(12, 1);
    Probe.text(x, 0, "f=1");
    due("36 what waits, as kept", x.check(), 0);
    // PULL by the TEXT of the IMAGE, though another was asked for ahead
    x.image();
    Probe.text(x, 0, "f=1|3");
    due("36 another PULL", x.then(3, 0, 0), 7);
    x.place(0, 5);
    due("36 another PULL", x.ofGood(0, 6), 1);
    x.restore();
    x.place(0, 5);
    due("36 the one ahead", x.ofGood(0, 6), 0);
  }

  private static void promise37() {
    NeckWorlds x = new NeckWorlds();
    for (int i = 1; i <= 20; i++) {
      due("37 " + i, x.tell(MIN + i), i);
    }
    due("37 full", x.tell(0), FULL);
    due("37 still 20", x.count(8), 20);
    x.check();
    due("37 from the first again", x.tell(0), 1);
  }

  private static void promise38() {
    NeckWorlds x = new NeckWorlds();
    due("38 none wait", x.check(), 0);
    x.good(0, 30);
    x.good(0, 20);
    x.tell(52);
    x.tell(56);
    x.tell(60);
    x.tell(60);
    due("38 all so", x.check(), 0);
    due("38 none wait then", x.count(8), 0);
    due("38 only thought", x.count(1), 0);
    due("38 only thought", x.ofGood(0, 2), 30);
    x.tell(52);
    x.tell(57);
    x.tell(61);
    due("38 the second", x.check(), 2);
    due("38 none wait then", x.count(8), 0);
    x.tell(50);
    due("38 the first", x.check(), 1);
    for (int i = 0; i < 20; i++) {
      x.tell(i == 0 ? 52 : i == 1 ? 56 : i == 19 ? 59 : 60);
    }
    due("38 the last of 20", x.check(), 20);
    due("38 no ERROR", x.told(1), 0);
  }

  private static void promise39() {
    NeckWorlds x = new NeckWorlds();
    int[] floors = {0, 0, 40, 16, 24, 15, 25, 40};
    for (int i = 0; i < 8; i++) {
      x.good(0, floors[i]);
    }
    due("39 what below", x.count(-1), BEYOND);
    due("39 what above", x.count(11), BEYOND);
    due("39 GOODS", x.count(0), 8);
    due("39 SIDE 0", x.count(3), 2);
    due("39 SIDE 1", x.count(4), 2);
    due("39 THE MIDDLE", x.count(5), 2);
    due("39 AT REST", x.count(6), 6);
    x.place(1, 1);
    due("39 SIDE 0, not beside it", x.count(3), 1);
    x.place(1, 0);
    x.place(2, 39);
    due("39 SIDE 1, not beside it", x.count(4), 1);
    x.place(2, 40);
    x.place(7, 20);
    due("39 SIDE 1", x.count(4), 1);
    due("39 THE MIDDLE", x.count(5), 3);
    x.steps(1);
    due("39 STEP", x.count(1), 1);
    due("39 TAKINGS", x.count(2), 0);
    x.steps(9);
    due("39 TAKINGS", x.count(2), 3);
    x.feed(0, 4);
    due("39 THE TAPE", x.count(7), 4);
    x.tell(3);
    due("39 wait", x.count(8), 1);
    x.voice(0, 3, 0);
    due("39 BODIES", x.count(9), 4);
    x.seed(-1000000002);
    due("39 z", x.count(10), -1000000002);
    due("39 no ERROR", x.told(2), 0);
  }

  private static void promise40() {
    NeckWorlds x = new NeckWorlds();
    due("40 below", x.told(0), BEYOND);
    due("40 above", x.told(6), BEYOND);
    due("40 counted too", x.told(1), 2);
    due("40 far", x.told(MIN), BEYOND);
    due("40 far", x.told(MAX), BEYOND);
    due("40 counted too", x.told(1), 4);
    x.first();
    due("40 NONE", x.told(2), 1);
    x.sheet(0, 8, -1);
    due("40 STATE", x.told(3), 1);
    for (int i = 0; i < 9; i++) {
      x.good(0, 0);
    }
    due("40 FULL", x.told(4), 1);
    x.as(0, 1);
    x.as(0, 2);
    due("40 KIND", x.told(5), 2);
    due("40 each by itself", x.told(1), 4);
  }
}
