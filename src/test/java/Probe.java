/** What the tests share: counting wrong answers, feeding texts, filling sheets. */
final class Probe {
  static final int BEYOND = -1000000001;
  static final int NONE = -1000000002;
  static final int STATE = -1000000003;
  static final int FULL = -1000000004;
  static final int KIND = -1000000005;

  private static int wrong = 0;
  private static int asked = 0;

  private Probe() { }

  static void due(String what, long got, long want) {
    asked++;
    if (got != want) {
      wrong++;
      System.out.println(what + ": answered " + got + ", due is " + want);
    }
  }

  static void holds(String what, boolean so) {
    due(what, so ? 1 : 0, 1);
  }

  static void end(String name) {
    System.out.println(name + ": " + asked + " asked, " + wrong + " wrong");
    if (wrong != 0) {
      System.exit(1);
    }
  }

  /** Feeds a text byte by byte in words of up to 8. */
  static void tape(NeckWorlds x, String text) {
    for (int i = 0; i < text.length(); i += 8) {
      int n = Math.min(8, text.length() - i);
      x.feed(word(text, i, n), n);
    }
  }

  static long word(String text, int from, int n) {
    long word = 0;
    for (int k = n - 1; k >= 0; k--) {
      word = word << 8 | text.charAt(from + k) & 255;
    }
    return word;
  }

  static int text(NeckWorlds x, int use, String text) {
    tape(x, text);
    return x.text(use);
  }

  static void fill(NeckWorlds x, int sheet, int bits, int... numbers) {
    x.sheet(sheet, bits, numbers.length);
    for (int i = 0; i < numbers.length; i++) {
      x.put(sheet, i, numbers[i]);
    }
  }

  /** A world with a PULL and one of the GOODS in it. */
  static NeckWorlds world(String pull, int km, int floor, int speed) {
    NeckWorlds x = new NeckWorlds();
    due("reads " + pull, text(x, 0, pull), 1);
    x.good(km, floor);
    x.push(0, speed);
    return x;
  }

  /** The same without PULL. */
  static NeckWorlds still(int km, int floor, int speed) {
    return world("0", km, floor, speed);
  }

  static void is(String what, NeckWorlds x, int floor, int speed) {
    due(what + ": FLOOR", x.ofGood(0, 2), floor);
    due(what + ": SPEED", x.ofGood(0, 3), speed);
  }
}
