/**
 * Terms 2 and the promises on THE TAPE, TEXTS and USES, read sentence by sentence:
 * each that names a bound has a test of its own, with its words at its head.
 * What is refused, and what that leaves as it is, is RefusedTest's.
 */
public final class TextsTest {
  private static final int BEYOND = Probe.BEYOND;
  private static final int MIN = Integer.MIN_VALUE;
  private static final int MAX = Integer.MAX_VALUE;

  private static void due(String what, long got, long want) {
    Probe.due(what, got, want);
  }

  public static void main(String[] args) {
    texts();
    Probe.end("TextsTest");
  }

  // ---- Terms 2: TEXTS

  private static void texts() {
    faultOfEachShortTape();
    faultOfEachByte();
    faultByDigits();
    faultByOpens();
    faultLeavesTheOneAhead();
    truthOfWhatIsNot0();
    comparesAllInts();
    wrapsAndCuts();
    holdsByUse();
    withoutAText();
    bytesOfAWord();
  }

  private static String names(int use) {
    return use == 0 ? "fm" : "slt";
  }

  private static int countDown(int[] digits, int base) {
    int i = 0;
    while (i < digits.length && ++digits[i] == base) {
      digits[i] = 0;
      i++;
    }
    return i;
  }

  /** "FAULT: the place of the first byte with which no TEXT goes on; how many there are, if it ends too early" */
  private static void faultOfEachShortTape() {
    String signs = "f1!()|<=+*s";
    NeckWorlds x = new NeckWorlds();
    int calls = 0;
    for (int length = 0; length <= 4; length++) {
      int[] digits = new int[length];
      do {
        StringBuilder text = new StringBuilder();
        for (int d : digits) {
          text.append(signs.charAt(d));
        }
        int fault = Oracle.Texts.fault(text.toString(), names(0));
        int got = Probe.text(x, 0, text.toString());
        if (got != (fault < 0 ? 1 : -10 - fault)) {
          due("FAULT of " + text, got, fault < 0 ? 1 : -10 - fault);
        }
        calls += 2;
        if (calls > 500) {
          x = new NeckWorlds();
          calls = 0;
        }
      } while (countDown(digits, signs.length()) < length);
    }
  }

  /** "TEXTS are read from THE TAPE (bytes ..)": of all 256 each at the head, behind a part, behind a sign */
  private static void faultOfEachByte() {
    for (int use = 0; use <= 1; use++) {
      char name = names(use).charAt(0);
      for (int b = 0; b < 256; b++) {
        boolean isPart = b >= '0' && b <= '9' || names(use).indexOf(b) >= 0;
        boolean isOpen = b == '!' || b == '(';
        boolean isSign = b > 0 && b < 128 && "|&<=>+-*/%".indexOf(b) >= 0;
        NeckWorlds x = new NeckWorlds();
        due("byte " + b + " alone", Probe.text(x, use, "" + (char) b), isPart ? 1 : isOpen ? -11 : -10);
        due("byte " + b + " behind", Probe.text(x, use, "" + name + (char) b), isSign ? -12 : -11);
        due("byte " + b + " behind +", Probe.text(x, use, name + "+" + (char) b), isPart ? 1 : isOpen ? -13 : -12);
        due("byte " + b + " ahead of a part", Probe.text(x, use, "" + (char) b + name), isPart ? -11
            : b == '!' ? 1 : isOpen ? -12 : -10);
        due("byte " + b + " amid", Probe.text(x, use, name + "+" + (char) b + name), isPart ? -13
            : b == '!' ? 1 : isOpen ? -14 : -12);
        due("byte " + b + " within", Probe.text(x, use, "(" + name + (char) b + "1)"), isSign ? 1
            : b == ')' ? -13 : -12);
      }
    }
  }

  /** "a NUMBER of 1 to 4 digits" */
  private static void faultByDigits() {
    String[] taken = {"0", "9", "00", "0000", "9999", "1+9999", "(9999)", "!9999", "9999*9999"};
    for (String text : taken) {
      due("reads " + text, Probe.text(new NeckWorlds(), 0, text), 1);
    }
    String[] refused = {"00000", "12345", "99999", "123456"};
    for (String text : refused) {
      due("a fifth digit of " + text, Probe.text(new NeckWorlds(), 0, text), -14);
      due("a fifth digit of 1+" + text, Probe.text(new NeckWorlds(), 0, "1+" + text), -16);
    }
    NeckWorlds x = new NeckWorlds();
    Probe.text(x, 0, "9999-9995");
    due("by tens", x.law(0, 0, 0, 0), 4);
    Probe.text(x, 0, "1000-0999");
    due("by tens", x.law(0, 0, 0, 0), 1);
  }

  /** "At most 5 of ! and ( are open at once." */
  private static void faultByOpens() {
    for (int way = 0; way < 32; way++) {
      StringBuilder open = new StringBuilder();
      StringBuilder close = new StringBuilder();
      for (int i = 0; i < 5; i++) {
        boolean isNot = (way >> i & 1) == 0;
        open.append(isNot ? '!' : '(');
        close.append(isNot ? "" : ")");
      }
      due("five: " + open, Probe.text(new NeckWorlds(), 0, open + "f" + close), 1);
      due("a sixth: " + open + "!", Probe.text(new NeckWorlds(), 0, open + "!f" + close), -15);
      due("a sixth: " + open + "(", Probe.text(new NeckWorlds(), 0, open + "(f)" + close), -15);
      due("none closed: " + open, Probe.text(new NeckWorlds(), 0, open.toString()), -15);
      due("five, then five", Probe.text(new NeckWorlds(), 1, open + "s" + close + "+" + open + "t" + close), 1);
    }
    // a ! is open up to the end of its Q only
    due("! closed", Probe.text(new NeckWorlds(), 0, "(!1+!1+!1+!1+!1+!1+!1)"), 1);
    due("( closed", Probe.text(new NeckWorlds(), 0, "(1)+(1)+(1)+(1)+(1)+(1)+(1)"), 1);
    due("! closed by )", Probe.text(new NeckWorlds(), 0, "((((!(1)+1))))"), -15);
    due("! closed by )", Probe.text(new NeckWorlds(), 0, "(((!(1)+!!1)))"), 1);
  }

  /** "THE TAPE, which is empty then"; "-10 less the FAULT (no ERROR; the one ahead stays; THE TAPE is empty, too)" */
  private static void faultLeavesTheOneAhead() {
    for (int use = 0; use <= 1; use++) {
      NeckWorlds x = new NeckWorlds();
      due("without a TEXT, a FAULT", Probe.text(x, use, "1+"), -12);
      due("none yet", x.law(use, use == 0 ? 40 : 1, use == 0 ? 0 : 2, 0), 4);
      due("a TEXT", Probe.text(x, use, "3"), 1);
      due("THE TAPE is empty then", x.count(7), 0);
      due("nothing is left of it", x.text(use), -10);
      due("the one ahead stays", x.law(use, 0, 0, 0), 3);
      due("a FAULT", Probe.text(x, use, "4)"), -11);
      due("THE TAPE is empty, too", x.count(7), 0);
      due("the one ahead stays", x.law(use, 0, 0, 0), 3);
      due("a longer one in its place", Probe.text(x, use, "1+2*3"), 1);
      due("in its place", x.law(use, 0, 0, 0), 7);
      due("a shorter one in its place", Probe.text(x, use, "2"), 1);
      due("in its place", x.law(use, 0, 0, 0), 2);
      due("the other USE has none", x.law(1 - use, 1 - use, 0, 0), use == 0 ? 0 : -4);
      Probe.tape(x, "5");
      due("no such USE", x.text(2), BEYOND);
      due("THE TAPE stays", x.text(use), 1);
      due("it stayed", x.law(use, 0, 0, 0), 5);
      due("no ERROR but that", Stage.told(x).equals("1 0 0 0 0 ") ? 1 : 0, 1);
    }
    NeckWorlds x = new NeckWorlds();
    String fifty = "1111*0+1111*0+1111*0+1111*0+1111*0+1111*0+1111*0+7";
    due("50 bytes", fifty.length(), 50);
    due("a TEXT of 50", Probe.text(x, 0, fifty), 1);
    due("all of it", x.law(0, 0, 0, 0), 7);
    due("a TAPE of 50 that ends too early", Probe.text(x, 0, fifty.substring(0, 49) + "("), -60);
    due("a FAULT at the last of 50", Probe.text(x, 0, fifty.substring(0, 49) + ")"), -59);
  }

  private static int value(String text, int a, int b) {
    NeckWorlds x = new NeckWorlds();
    due("reads " + text, Probe.text(x, 0, text), 1);
    return x.law(0, a, b, 0);
  }

  /** "| & < = > ! are 1 or 0, what is not 0 being true" */
  private static void truthOfWhatIsNot0() {
    for (int v : new int[] {0, 1, 2, -1, -2, MAX, MIN, 256, 65536}) {
      int is = v == 0 ? 0 : 1;
      due("!f of " + v, value("!f", v, 0), 1 - is);
      due("!!f of " + v, value("!!f", v, 0), is);
      due("f&1 of " + v, value("f&1", v, 0), is);
      due("1&f of " + v, value("1&f", v, 0), is);
      due("f&0 of " + v, value("f&0", v, 0), 0);
      due("f|0 of " + v, value("f|0", v, 0), is);
      due("0|f of " + v, value("0|f", v, 0), is);
      due("f|1 of " + v, value("f|1", v, 0), 1);
      due("f&m of " + v, value("f&m", v, v), is);
      due("f|m of " + v, value("f|m", v, v), is);
    }
    due("1 & 2 are true", value("f&m", 1, 2), 1);
    due("1 and -1 are true", value("f&m", 1, -1), 1);
    due("it is 1", value("(f|m)+7", 4, 8), 8);
  }

  /** "S < S, S = S, S > S", of ints that are far apart, too */
  private static void comparesAllInts() {
    int[] all = {MIN, MIN + 1, -1, 0, 1, MAX - 1, MAX};
    for (int a : all) {
      for (int b : all) {
        due(a + "<" + b, value("f<m", a, b), a < b ? 1 : 0);
        due(a + "=" + b, value("f=m", a, b), a == b ? 1 : 0);
        due(a + ">" + b, value("f>m", a, b), a > b ? 1 : 0);
      }
    }
  }

  /** "Ints that wrap; / cut, % the rest that it leaves, both by 0 are 0" */
  private static void wrapsAndCuts() {
    due("MAX and 1", value("(f+1)=m", MAX, MIN), 1);
    due("MIN less 1", value("(f-1)=m", MIN, MAX), 1);
    due("twice MIN", value("f*2", MIN, 0), 0);
    due("twice MAX", value("f*2", MAX, 0), -2);
    due("MAX times MAX", value("f*f", MAX, 0), 1);
    due("MIN times -1", value("f*m=f", MIN, -1), 1);
    due("MIN by -1", value("f/m=f", MIN, -1), 1);
    due("the rest of MIN by -1", value("f%m", MIN, -1), 0);
    int[][] quotients = {{7, 2, 3, 1}, {-7, 2, -3, -1}, {7, -2, -3, 1}, {-7, -2, 3, -1}, {1, 2, 0, 1},
      {-1, 2, 0, -1}, {6, 3, 2, 0}, {-6, 3, -2, 0}, {5, 0, 0, 0}, {-5, 0, 0, 0}, {0, 0, 0, 0}, {0, 5, 0, 0}};
    for (int[] q : quotients) {
      due(q[0] + "/" + q[1], value("f/m", q[0], q[1]), q[2]);
      due(q[0] + "%" + q[1], value("f%m", q[0], q[1]), q[3]);
    }
    due("by 0, then on", value("5/0+4%0+3", 0, 0), 3);
    due("all is worked out", value("1|1/0", 0, 0), 1);
    due("all is worked out", value("0&1%0", 0, 0), 0);
  }

  /** "held within -9 to 9"; "held within -99 to 99" */
  private static void holdsByUse() {
    for (int v : new int[] {MIN, -100, -99, -98, -10, -9, -8, 0, 8, 9, 10, 98, 99, 100, MAX}) {
      NeckWorlds x = new NeckWorlds();
      Probe.text(x, 0, "f");
      Probe.text(x, 1, "l");
      due("PULL of " + v, x.law(0, v, 0, 0), Math.max(-9, Math.min(9, v)));
      due("TAX of " + v, x.law(1, 0, v, 0), Math.max(-99, Math.min(99, v)));
      // not held by parts, but as a whole
      Probe.text(x, 0, "f-m");
      due("PULL as a whole", x.law(0, v, v, 0), 0);
      Probe.text(x, 1, "t-l");
      due("TAX as a whole", x.law(1, 0, v, v), 0);
    }
  }

  /** "without a TEXT (f-20)/5" (cut); "without a TEXT l*(s+1)"; "(PULL: a, b)" */
  private static void withoutAText() {
    int[] pulls = {-4, -3, -3, -3, -3, -3, -2, -2, -2, -2, -2, -1, -1, -1, -1, -1, 0, 0, 0, 0, 0,
      0, 0, 0, 0, 1, 1, 1, 1, 1, 2, 2, 2, 2, 2, 3, 3, 3, 3, 3, 4};
    NeckWorlds x = new NeckWorlds();
    for (int f = 0; f <= 40; f++) {
      due("PULL at " + f, x.law(0, f, 9, 9), pulls[f]);
    }
    due("PULL 9", x.law(0, 69, 0, 0), 9);
    due("PULL held", x.law(0, 70, 0, 0), 9);
    due("PULL -9", x.law(0, -29, 0, 0), -9);
    due("PULL held", x.law(0, -30, 0, 0), -9);
    for (int l = 0; l <= 50; l++) {
      due("TAX of SIDE 0", x.law(1, 0, l, 9), l);
      due("TAX of SIDE 1", x.law(1, 1, l, 9), Math.min(99, 2 * l));
    }
    Probe.text(x, 0, "m");
    due("b is m, whatever c", x.law(0, 1, 2, 3), 2);
    Probe.text(x, 1, "t");
    due("c is t", x.law(1, 1, 2, 3), 3);
    Probe.text(x, 1, "s");
    due("a is s", x.law(1, 4, 2, 3), 4);
  }

  /** "The n lowest bytes (1 .. 8) of a word, the lowest first, come to THE TAPE: how many there are" */
  private static void bytesOfAWord() {
    String text = "1+2+f*3-";
    long word = Probe.word(text, 0, 8);
    for (int n = 1; n <= 8; n++) {
      NeckWorlds x = new NeckWorlds();
      due("n bytes", x.feed(word, n), n);
      due("how many", x.count(7), n);
      due("the lowest first", x.text(0), n % 2 == 1 ? 1 : -10 - n);
      due("all of them", x.law(0, 1, 0, 0), new int[] {0, 1, -3, 3, -3, 4, -3, 6, -3}[n]);
      due("from its head again", x.feed(word, 1), 1);
    }
    NeckWorlds x = new NeckWorlds();
    due("the highest byte of a word below 0", x.feed(0xFF31313131313131L, 7), 7);
    due("a fifth digit", x.text(0), -14);
    due("a byte above 127", x.feed(0xB12B66L, 3), 3);
    due("it isn't 1", x.text(0), -12);
  }
}
