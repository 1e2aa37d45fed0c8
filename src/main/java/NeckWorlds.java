import java.util.Arrays;

/**
 * A neck between two worlds: a pillar of FLOORS on which GOODS fall, float and hang.
 * What each call does is told by promises 1 to 40 of ../shared/DOC.md, whose words are used here.
 */
public final class NeckWorlds {
  private static final int LOW = -1000000000;
  private static final int BEYOND = 1;
  private static final int NONE = 2;
  private static final int STATE = 3;
  private static final int FULL = 4;
  private static final int KIND = 5;

  private static final int TOP = 40;
  private static final int MIDDLE_FROM = 16;
  private static final int MIDDLE_TO = 24;
  private static final int GOODS = 8;
  private static final int FASTEST = 9;
  private static final int LAST_STEP = 9999;
  private static final int MOST_STEPS = 200;
  private static final int MOST_TAKINGS = 99999;
  private static final int TAPE = 50;
  private static final int WAITING = 20;
  private static final int SHEETS = 4;
  private static final int MOST_NUMBERS = 40;

  private static final int GOOD = 0;
  private static final int STONE = 1;
  private static final int ROPED = 2;
  private static final int GAS = 3;
  private static final int PRISONER = 4;
  private static final int WATER = 5;
  private static final int ANVIL = 6;
  private static final int KINDS = 7;
  /** Of each KIND the one above it. */
  private static final int[] ABOVE = {-1, 0, 0, 0, 2, 3, 1};

  private static final int PULL = 0;
  private static final int TAX = 1;

  private final Course course = new Course();
  private final Setting setting = new Setting();
  private final Course keptCourse = new Course();
  private final Setting keptSetting = new Setting();
  private final Course thoughtCourse = new Course();
  private final Thought thought = new Thought(setting);
  private final Reader reader = new Reader();
  private final Pairs pairs = new Pairs();
  private final Voices voices = new Voices();
  private final Sheet[] sheets = new Sheet[SHEETS];
  private final int[] errors = new int[KIND + 1];
  private int images;

  public NeckWorlds() {
    for (int i = 0; i < SHEETS; i++) {
      sheets[i] = new Sheet();
    }
  }

  // ---- goods

  public int good(int km, int floor) {
    if (!isKm(km) || !isFloor(floor)) {
      return error(BEYOND);
    }
    if (course.count >= GOODS) {
      return error(FULL);
    }
    Good made = course.goods[course.count];
    made.turnInto(km);
    made.standAt(floor);
    course.count++;
    return course.count - 1;
  }

  public int ofGood(int good, int what) {
    if (!isGood(good) || !within(what, 0, 9)) {
      return error(BEYOND);
    }
    Good g = course.goods[good];
    switch (what) {
      case 0: return g.kind;
      case 1: return g.m;
      case 2: return g.floor;
      case 3: return g.speed;
      case 4: return g.home;
      case 5: return g.load();
      case 6: return g.pulled(setting.pullOf(g));
      case 7: return g.drag();
      case 8: return g.reach();
      default: return thought.stays(g) ? 1 : 0;
    }
  }

  public int become(int good, int km) {
    if (!isGood(good) || !isKm(km)) {
      return error(BEYOND);
    }
    int was = course.goods[good].kind;
    course.goods[good].turnInto(km);
    return was;
  }

  public int as(int good, int kind) {
    if (!isGood(good) || !within(kind, 0, KINDS - 1)) {
      return error(BEYOND);
    }
    if (!isUnder(course.goods[good].kind, kind)) {
      return error(KIND);
    }
    return course.goods[good].m;
  }

  public int place(int good, int floor) {
    if (!isGood(good) || !isFloor(floor)) {
      return error(BEYOND);
    }
    int was = course.goods[good].floor;
    course.goods[good].standAt(floor);
    return was;
  }

  public int push(int good, int p) {
    if (!isGood(good) || !isPush(p)) {
      return error(BEYOND);
    }
    course.goods[good].shove(p);
    return course.goods[good].speed;
  }

  public int off(int one, int other, int p) {
    if (!isGood(one) || !isGood(other) || one == other || !isPush(p)) {
      return error(BEYOND);
    }
    Good first = course.goods[one];
    Good second = course.goods[other];
    if (first.floor != second.floor) {
      return error(STATE);
    }
    first.shove(p);
    second.shove(-p);
    return first.speed;
  }

  // ---- doors

  public int set(int what, int v) {
    if (!within(what, 0, 2)) {
      return error(BEYOND);
    }
    if (what == 0 ? !within(v, 2, 24) : !within(v, -9, 9)) {
      return error(BEYOND);
    }
    int was;
    if (what == 0) {
      was = setting.ring;
      setting.ring = v;
    } else {
      was = setting.shears[what - 1];
      setting.shears[what - 1] = v;
    }
    return was;
  }

  public int door(int side, int door) {
    if (!isSide(side) || !isDoor(door)) {
      return error(BEYOND);
    }
    return setting.doorPlace(side, door, course.step);
  }

  public int lineUp(int i, int j) {
    if (!isDoor(i) || !isDoor(j)) {
      return error(BEYOND);
    }
    for (int k = 0; k < setting.ring; k++) {
      int t = course.step + k;
      if (setting.doorPlace(0, i, t) == setting.doorPlace(1, j, t)) {
        return k;
      }
    }
    return error(NONE);
  }

  // ---- texts

  public int feed(long word, int n) {
    if (!within(n, 1, 8)) {
      return error(BEYOND);
    }
    if (setting.tapeLength + n > TAPE) {
      return error(FULL);
    }
    for (int i = 0; i < n; i++) {
      setting.tape[setting.tapeLength + i] = (byte) (word >>> (8 * i));
    }
    setting.tapeLength += n;
    return setting.tapeLength;
  }

  public int text(int use) {
    if (!isUse(use)) {
      return error(BEYOND);
    }
    int fault = reader.fault(setting.tape, setting.tapeLength, use);
    setting.tapeLength = 0;
    if (fault >= 0) {
      return -10 - fault;
    }
    setting.lawOf(use).hold(reader.words, reader.count);
    setting.forgetPulls();
    return 1;
  }

  public int law(int use, int a, int b, int c) {
    if (!isUse(use)) {
      return error(BEYOND);
    }
    return setting.lawOf(use).give(a, b, c);
  }

  // ---- steps

  public int steps(int n) {
    if (!within(n, 1, MOST_STEPS)) {
      return error(BEYOND);
    }
    if (course.step + n > LAST_STEP) {
      return error(STATE);
    }
    for (int i = 0; i < n; i++) {
      course.goOn(setting);
    }
    return howManyRest();
  }

  public int loose(int n) {
    if (!within(n, 1, MOST_STEPS)) {
      return error(BEYOND);
    }
    if (course.step + n > LAST_STEP) {
      return error(STATE);
    }
    for (int i = 0; i < n; i++) {
      course.quake(setting);
      course.goOn(setting);
    }
    return howManyRest();
  }

  public int then(int n, int good, int what) {
    if (!within(n, 0, MOST_STEPS) || !isGood(good) || !within(what, 0, 2)) {
      return error(BEYOND);
    }
    thoughtCourse.copyFrom(course);
    for (int i = 0; i < n; i++) {
      thoughtCourse.goOn(setting);
    }
    if (what == 2) {
      return thoughtCourse.takings;
    }
    return what == 0 ? thoughtCourse.goods[good].floor : thoughtCourse.goods[good].speed;
  }

  // ---- what would be

  public int rests(int good, int what) {
    if (!isGood(good) || !within(what, 0, 1)) {
      return error(BEYOND);
    }
    int behind = thought.restsBehind(course.goods[good]);
    if (behind < 0) {
      return error(NONE);
    }
    return what == 0 ? behind : thought.one.floor;
  }

  public int first() {
    int best = -1;
    int bestBehind = MOST_STEPS + 1;
    for (int i = 0; i < course.count; i++) {
      int behind = thought.restsBehind(course.goods[i]);
      if (behind >= 0 && behind < bestBehind && isMiddle(thought.one.floor)) {
        best = i;
        bestBehind = behind;
      }
    }
    return best < 0 ? error(NONE) : best;
  }

  public int over(int good, int side, int p) {
    if (!isGood(good) || !isSide(side) || !isPush(p)) {
      return error(BEYOND);
    }
    int behind = thought.overBehind(course.goods[good], side, p);
    return behind < 0 ? error(NONE) : behind;
  }

  public int soonest(int good, int side, int what) {
    if (!isGood(good) || !isSide(side) || !within(what, 0, 1)) {
      return error(BEYOND);
    }
    int best = 0;
    int bestBehind = -1;
    for (int i = 0; i <= 2 * FASTEST; i++) {
      int behind = thought.overBehind(course.goods[good], side, pushBySize(i));
      if (behind >= 0 && (bestBehind < 0 || behind < bestBehind)) {
        best = pushBySize(i);
        bestBehind = behind;
      }
    }
    if (bestBehind < 0) {
      return error(NONE);
    }
    return what == 0 ? best : bestBehind;
  }

  public int least(int good, int side) {
    if (!isGood(good) || !isSide(side)) {
      return error(BEYOND);
    }
    for (int i = 0; i <= 2 * FASTEST; i++) {
      if (thought.overBehind(course.goods[good], side, pushBySize(i)) >= 0) {
        return pushBySize(i);
      }
    }
    return error(NONE);
  }

  public int lifts(int what) {
    if (!within(what, -2, course.count - 1)) {
      return error(BEYOND);
    }
    pairs.balance(course);
    if (what == -2) {
      return pairs.most;
    }
    return what == -1 ? pairs.bestSum : pairs.mate[what];
  }

  public int rolled(int good, int sheet, int what) {
    if (!isGood(good) || !isSheet(sheet) || !within(what, 0, 1)) {
      return error(BEYOND);
    }
    if (sheets[sheet].isMissing()) {
      return error(NONE);
    }
    int slowest = 0;
    int many = 0;
    for (int speed = -FASTEST; speed <= FASTEST; speed++) {
      if (thought.rollsSo(course.goods[good], speed, sheets[sheet])) {
        slowest = many == 0 ? speed : slowest;
        many++;
      }
    }
    if (many == 0) {
      return error(NONE);
    }
    return what == 0 ? slowest : many;
  }

  public int whose(int good, int sheet) {
    if (!isGood(good) || !isSheet(sheet)) {
      return error(BEYOND);
    }
    if (sheets[sheet].isMissing()) {
      return error(NONE);
    }
    for (int kind = 0; kind < KINDS; kind++) {
      if (thought.goesSoAs(course.goods[good], kind, sheets[sheet])) {
        return kind;
      }
    }
    return error(NONE);
  }

  public int odds(int good, int side, int n, int part) {
    if (!isGood(good) || !isSide(side) || !within(n, 0, 5) || !within(part, 0, 1)) {
      return error(BEYOND);
    }
    int below = 1;
    for (int i = 0; i < n; i++) {
      below *= 3;
    }
    int above = thought.landings(course.goods[good], side, n, below);
    // below is a power of 3, so that 3 is all that both can share
    for (int i = 0; i < n && above % 3 == 0; i++) {
      above /= 3;
      below /= 3;
    }
    return part == 0 ? above : below;
  }

  // ---- draws, voices, sheets, images, what is told

  public int seed(int v) {
    int was = setting.z;
    setting.z = v;
    return was;
  }

  public int voice(int good, int act, int x) {
    if (!isGood(good) || !within(act, 0, 3)) {
      return error(BEYOND);
    }
    return voices.speak(course.goods[good], good, act, x);
  }

  public int trace(int i) {
    return within(i, 0, voices.bodies - 1) ? voices.trace[i] : error(NONE);
  }

  public int sheet(int sheet, int bits, int n) {
    if (!isSheet(sheet) || (bits != 0 && bits != 8 && bits != 16 && bits != 32)) {
      return error(BEYOND);
    }
    if (bits != 0 && n < 0) {
      return error(STATE);
    }
    if (bits != 0 && n > MOST_NUMBERS) {
      return error(BEYOND);
    }
    sheets[sheet].clear(bits, bits == 0 ? 0 : n);
    return 1;
  }

  public int put(int sheet, int i, int v) {
    if (!isSheet(sheet)) {
      return error(BEYOND);
    }
    Sheet s = sheets[sheet];
    if (s.isMissing()) {
      return error(NONE);
    }
    if (!within(i, 0, s.length - 1)) {
      return error(BEYOND);
    }
    s.numbers[i] = s.lowestBits(v);
    return 1;
  }

  public int move(int sheet, int i, int other, int j, int n) {
    if (!isSheet(sheet) || !isSheet(other)) {
      return error(BEYOND);
    }
    Sheet from = sheets[sheet];
    Sheet to = sheets[other];
    if (from.isMissing() || to.isMissing()) {
      return error(NONE);
    }
    if (from.bits != to.bits) {
      return error(KIND);
    }
    if (!from.hasFrom(i, n) || !to.hasFrom(j, n)) {
      return error(BEYOND);
    }
    System.arraycopy(from.numbers, i, to.numbers, j, n);
    return n;
  }

  public int pushes(int sheet) {
    if (!isSheet(sheet)) {
      return error(BEYOND);
    }
    Sheet s = sheets[sheet];
    if (s.isMissing()) {
      return error(NONE);
    }
    int many = Math.min(s.length, course.count);
    for (int i = 0; i < many; i++) {
      if (!isPush(s.numbers[i])) {
        return i;
      }
      course.goods[i].shove(s.numbers[i]);
    }
    return many;
  }

  public int judge(int sheet) {
    if (!isSheet(sheet)) {
      return error(BEYOND);
    }
    Sheet s = sheets[sheet];
    if (s.isMissing()) {
      return error(NONE);
    }
    int both = Math.min(s.length, course.count);
    for (int i = 0; i < both; i++) {
      if (s.numbers[i] != course.goods[i].floor) {
        return i;
      }
    }
    return s.length == course.count ? -1 : both;
  }

  public int image() {
    keptCourse.copyFrom(course);
    keptSetting.copyFrom(setting);
    images++;
    return images;
  }

  public int restore() {
    if (images == 0) {
      return error(NONE);
    }
    course.copyFrom(keptCourse);
    setting.copyFrom(keptSetting);
    return course.step;
  }

  public int tell(int v) {
    if (setting.waitingCount >= WAITING) {
      return error(FULL);
    }
    setting.waiting[setting.waitingCount] = v;
    setting.waitingCount++;
    return setting.waitingCount;
  }

  public int check() {
    int many = setting.waitingCount;
    setting.waitingCount = 0;
    thoughtCourse.copyFrom(course);
    for (int i = 0; i < many; i++) {
      thoughtCourse.goOn(setting);
      if (thoughtCourse.floorsTogether() != setting.waiting[i]) {
        return 1 + i;
      }
    }
    return 0;
  }

  public int count(int what) {
    switch (what) {
      case 0: return course.count;
      case 1: return course.step;
      case 2: return course.takings;
      case 3: return course.howManyWithin(0, 0);
      case 4: return course.howManyWithin(TOP, TOP);
      case 5: return course.howManyWithin(MIDDLE_FROM, MIDDLE_TO);
      case 6: return howManyRest();
      case 7: return setting.tapeLength;
      case 8: return setting.waitingCount;
      case 9: return voices.bodies;
      case 10: return setting.z;
      default: return error(BEYOND);
    }
  }

  public int told(int k) {
    return within(k, BEYOND, KIND) ? errors[k] : error(BEYOND);
  }

  // ---- what the calls share

  private int error(int k) {
    errors[k]++;
    return LOW - k;
  }

  private int howManyRest() {
    int many = 0;
    for (int i = 0; i < course.count; i++) {
      many += thought.stays(course.goods[i]) ? 1 : 0;
    }
    return many;
  }

  private boolean isGood(int good) {
    return within(good, 0, course.count - 1);
  }

  private boolean isDoor(int door) {
    return within(door, 0, setting.ring - 1);
  }

  private static boolean isKm(int km) {
    return within(km, 0, 10 * KINDS - 1);
  }

  private static boolean isFloor(int floor) {
    return within(floor, 0, TOP);
  }

  private static boolean isMiddle(int floor) {
    return within(floor, MIDDLE_FROM, MIDDLE_TO);
  }

  private static boolean isPush(int p) {
    return within(p, -FASTEST, FASTEST);
  }

  private static boolean isSide(int side) {
    return within(side, 0, 1);
  }

  private static boolean isUse(int use) {
    return within(use, PULL, TAX);
  }

  private static boolean isSheet(int sheet) {
    return within(sheet, 0, SHEETS - 1);
  }

  private static boolean isUnder(int kind, int above) {
    int k = kind;
    for (int i = 0; i < KINDS && k >= 0; i++) {
      if (k == above) {
        return true;
      }
      k = ABOVE[k];
    }
    return false;
  }

  /** All PUSHES by size, of two that below 0 first: 0, -1, 1, -2, 2, .. */
  private static int pushBySize(int i) {
    return i % 2 == 1 ? -(i + 1) / 2 : i / 2;
  }

  private static boolean within(int v, int least, int most) {
    return v >= least && v <= most;
  }

  private static int held(int v, int least, int most) {
    return Math.max(least, Math.min(most, v));
  }

  /** One of the GOODS: where it is, and what its KIND makes of LOAD, PULL, DRAG and REACH. */
  static final class Good {
    int kind;
    int m;
    int floor;
    int speed;
    int home;

    void copyFrom(Good other) {
      kind = other.kind;
      m = other.m;
      floor = other.floor;
      speed = other.speed;
      home = other.home;
    }

    void turnInto(int km) {
      kind = km / 10;
      m = km % 10;
    }

    void standAt(int newFloor) {
      floor = newFloor;
      home = newFloor;
      speed = 0;
    }

    void shove(int p) {
      speed = held(speed + p, -FASTEST, FASTEST);
    }

    int load() {
      switch (kind) {
        case STONE: return 3 * (m + 1);
        case ANVIL: return 3 * (m + 1) + 20;
        case PRISONER: return m + 1 + 5;
        case GAS: return 0;
        case WATER: return m;
        default: return m + 1;
      }
    }

    int pulled(int v) {
      switch (kind) {
        case GAS:
        case WATER: return 0 - v / 2;
        case ANVIL: return 2 * v;
        default: return v;
      }
    }

    int drag() {
      switch (kind) {
        case STONE:
        case ANVIL: return 0;
        case GAS: return 2;
        case WATER: return 1;
        default: return m % 2;
      }
    }

    int reach() {
      switch (kind) {
        case ROPED: return m + 2;
        case PRISONER: return (m + 2) / 2;
        default: return TOP;
      }
    }

    /** Its part of a STEP under a PULL of v: whether FLOOR or SPEED are others then. */
    boolean stride(int v) {
      int oldFloor = floor;
      int oldSpeed = speed;
      int drawn = speed + pulled(v);
      int slowed = drawn > 0 ? Math.max(0, drawn - drag()) : Math.min(0, drawn + drag());
      speed = held(slowed, -FASTEST, FASTEST);
      int aim = floor + speed;
      floor = held(aim, Math.max(0, home - reach()), Math.min(TOP, home + reach()));
      if (floor != aim) {
        speed = 0;
      }
      return floor != oldFloor || speed != oldSpeed;
    }
  }

  /** What STEPS change: GOODS, STEP and TAKINGS. */
  static final class Course {
    final Good[] goods = new Good[GOODS];
    int count;
    int step;
    int takings;

    Course() {
      for (int i = 0; i < GOODS; i++) {
        goods[i] = new Good();
      }
    }

    void copyFrom(Course other) {
      count = other.count;
      step = other.step;
      takings = other.takings;
      for (int i = 0; i < count; i++) {
        goods[i].copyFrom(other.goods[i]);
      }
    }

    void goOn(Setting setting) {
      for (int i = 0; i < count; i++) {
        Good g = goods[i];
        int ahead = g.floor;
        g.stride(setting.pullOf(g));
        if (g.floor != ahead && (g.floor == 0 || g.floor == TOP)) {
          int tax = setting.tax.give(g.floor == 0 ? 0 : 1, g.load(), step);
          takings = held(takings + tax, -MOST_TAKINGS, MOST_TAKINGS);
        }
      }
      step++;
    }

    void quake(Setting setting) {
      for (int i = 0; i < count; i++) {
        goods[i].shove(setting.nextDraw() % 3 - 1);
      }
    }

    int floorsTogether() {
      int sum = 0;
      for (int i = 0; i < count; i++) {
        sum += goods[i].floor;
      }
      return sum;
    }

    int howManyWithin(int from, int to) {
      int many = 0;
      for (int i = 0; i < count; i++) {
        many += within(goods[i].floor, from, to) ? 1 : 0;
      }
      return many;
    }
  }

  /** What an IMAGE keeps beside the Course: DOORS, THE TAPE, TEXTS, z and the numbers that wait. */
  static final class Setting {
    private static final int UNKNOWN = 100;

    int ring = 12;
    final int[] shears = {1, -1};
    int z = 1;
    final byte[] tape = new byte[TAPE];
    int tapeLength;
    final int[] waiting = new int[WAITING];
    int waitingCount;
    final Law pull = new Law(PULL);
    final Law tax = new Law(TAX);
    /** PULL by m and FLOOR, as far as it was asked for: a TEXT takes long to work out. */
    private final byte[] pulls = new byte[10 * (TOP + 1)];

    Setting() {
      forgetPulls();
    }

    void copyFrom(Setting other) {
      ring = other.ring;
      shears[0] = other.shears[0];
      shears[1] = other.shears[1];
      z = other.z;
      tapeLength = other.tapeLength;
      System.arraycopy(other.tape, 0, tape, 0, TAPE);
      waitingCount = other.waitingCount;
      System.arraycopy(other.waiting, 0, waiting, 0, WAITING);
      pull.hold(other.pull.words, other.pull.length);
      tax.hold(other.tax.words, other.tax.length);
      forgetPulls();
    }

    Law lawOf(int use) {
      return use == PULL ? pull : tax;
    }

    void forgetPulls() {
      Arrays.fill(pulls, (byte) UNKNOWN);
    }

    int pullOf(Good g) {
      int at = g.m * (TOP + 1) + g.floor;
      if (!within(at, 0, pulls.length - 1)) {
        return pull.give(g.floor, g.m, 0);
      }
      if (pulls[at] == UNKNOWN) {
        pulls[at] = (byte) pull.give(g.floor, g.m, 0);
      }
      return pulls[at];
    }

    int doorPlace(int side, int door, int t) {
      return Math.floorMod(door + shears[side] * t, ring);
    }

    int nextDraw() {
      z = z * 1103515245 + 12345;
      return z >>> 8;
    }
  }

  /** What a USE gives: by its TEXT, held as words in the order in which they are worked out. */
  static final class Law {
    /** A word below this is a NUMBER; from here on a NAME. */
    static final int NAME = 10000;
    /** From here on a word is the sign of an operator. */
    static final int OPERATOR = 20000;

    final int use;
    final int[] words = new int[TAPE];
    int length;
    private final int[] stack = new int[TAPE];

    Law(int use) {
      this.use = use;
    }

    void hold(int[] newWords, int newLength) {
      length = held(newLength, 0, TAPE);
      System.arraycopy(newWords, 0, words, 0, length);
    }

    int give(int a, int b, int c) {
      if (use == PULL) {
        return held(length == 0 ? (a - 20) / 5 : worked(a, b, c), -9, 9);
      }
      return held(length == 0 ? b * (a + 1) : worked(a, b, c), -99, 99);
    }

    private int worked(int a, int b, int c) {
      int top = 0;
      for (int i = 0; i < length; i++) {
        int word = words[i];
        if (word < OPERATOR && top < TAPE) {
          stack[top] = leaf(word, a, b, c);
          top++;
        } else if (word == OPERATOR + '!' && top > 0) {
          stack[top - 1] = stack[top - 1] == 0 ? 1 : 0;
        } else if (top > 1) {
          top--;
          stack[top - 1] = joined(word - OPERATOR, stack[top - 1], stack[top]);
        }
      }
      return stack[0];
    }

    private static int leaf(int word, int a, int b, int c) {
      switch (word - NAME) {
        case 0: return a;
        case 1: return b;
        case 2: return c;
        default: return word;
      }
    }

    private static int joined(int sign, int x, int y) {
      switch (sign) {
        case '+': return x + y;
        case '-': return x - y;
        case '*': return x * y;
        case '/': return y == 0 ? 0 : x / y;
        case '%': return y == 0 ? 0 : x % y;
        case '<': return x < y ? 1 : 0;
        case '=': return x == y ? 1 : 0;
        case '>': return x > y ? 1 : 0;
        case '&': return x != 0 && y != 0 ? 1 : 0;
        default: return x != 0 || y != 0 ? 1 : 0;
      }
    }
  }

  /** Reads a TEXT from THE TAPE into words, or finds its FAULT. */
  static final class Reader {
    private static final int COMPARE = 2;
    private static final int TIGHTEST = 4;
    private static final int MOST_OPEN = 5;
    private static final int MOST_DIGITS = 4;

    final int[] words = new int[TAPE];
    int count;
    private byte[] tape = new byte[0];
    private int length;
    private int at;
    private String names = "";

    /** The FAULT; -1 if there is none: then words holds the TEXT. */
    int fault(byte[] newTape, int newLength, int use) {
      tape = newTape;
      length = Math.min(newLength, newTape.length);
      names = use == PULL ? "fm" : "slt";
      at = 0;
      count = 0;
      return readJoined(0, 0) && at == length ? -1 : at;
    }

    /** Reads parts that operators of a level (0 the loosest) or tighter ones join. */
    private boolean readJoined(int level, int open) {
      if (level > TIGHTEST) {
        return readPart(open);
      }
      if (!readJoined(level + 1, open)) {
        return false;
      }
      while (at < length && levelOf(tape[at]) == level) {
        int sign = tape[at];
        at++;
        if (!readJoined(level + 1, open)) {
          return false;
        }
        keep(Law.OPERATOR + sign);
        // S < S < S is no TEXT
        if (level == COMPARE) {
          break;
        }
      }
      return true;
    }

    private boolean readPart(int open) {
      if (at >= length) {
        return false;
      }
      int sign = tape[at] & 255;
      if (isDigit(sign)) {
        return readNumber();
      }
      int name = names.indexOf((char) sign);
      if (name >= 0) {
        keep(Law.NAME + name);
        at++;
        return true;
      }
      if (open >= MOST_OPEN || (sign != '!' && sign != '(')) {
        return false;
      }
      at++;
      return sign == '!' ? readNegated(open + 1) : readEnclosed(open + 1);
    }

    private boolean readNegated(int open) {
      if (!readPart(open)) {
        return false;
      }
      keep(Law.OPERATOR + '!');
      return true;
    }

    private boolean readEnclosed(int open) {
      if (!readJoined(0, open) || at >= length || tape[at] != ')') {
        return false;
      }
      at++;
      return true;
    }

    private boolean readNumber() {
      int value = 0;
      int end = Math.min(length, at + MOST_DIGITS);
      while (at < end && isDigit(tape[at])) {
        value = value * 10 + tape[at] - '0';
        at++;
      }
      keep(value);
      return true;
    }

    private void keep(int word) {
      if (count < TAPE) {
        words[count] = word;
        count++;
      }
    }

    private static boolean isDigit(int sign) {
      return within(sign, '0', '9');
    }

    private static int levelOf(int sign) {
      switch (sign) {
        case '|': return 0;
        case '&': return 1;
        case '<':
        case '=':
        case '>': return COMPARE;
        case '+':
        case '-': return 3;
        case '*':
        case '/':
        case '%': return TIGHTEST;
        default: return -1;
      }
    }
  }

  /** What one of the GOODS would do: it is only thought, with a likeness of it. */
  static final class Thought {
    private static final int MOST_OVER = 100;
    private static final int ODDS_STEPS = 50;

    final Good one = new Good();
    private final Setting setting;

    Thought(Setting setting) {
      this.setting = setting;
    }

    private boolean goesOn() {
      return one.stride(setting.pullOf(one));
    }

    boolean stays(Good g) {
      one.copyFrom(g);
      return !goesOn();
    }

    /** Behind how many STEPS it is AT REST, its likeness being there then; -1: never. */
    int restsBehind(Good g) {
      one.copyFrom(g);
      for (int k = 0; k <= MOST_STEPS; k++) {
        if (!goesOn()) {
          return k;
        }
      }
      return -1;
    }

    /** OVER by p on a SIDE; -1: never. */
    int overBehind(Good g, int side, int p) {
      one.copyFrom(g);
      one.shove(p);
      for (int k = 0; k <= MOST_OVER; k++) {
        if (one.floor == side * TOP) {
          return k;
        }
        if (!goesOn()) {
          return -1;
        }
      }
      return -1;
    }

    boolean rollsSo(Good g, int speed, Sheet sheet) {
      one.copyFrom(g);
      one.speed = speed;
      return goesSo(sheet);
    }

    boolean goesSoAs(Good g, int kind, Sheet sheet) {
      one.copyFrom(g);
      one.kind = kind;
      return goesSo(sheet);
    }

    private boolean goesSo(Sheet sheet) {
      for (int i = 0; i < sheet.length; i++) {
        goesOn();
        if (one.floor != sheet.numbers[i]) {
          return false;
        }
      }
      return true;
    }

    /** Of all ways (3 to the n-th) in which n QUAKES may come, how many bring it to the ground. */
    int landings(Good g, int side, int n, int ways) {
      int many = 0;
      for (int way = 0; way < ways; way++) {
        one.copyFrom(g);
        goThroughQuakes(way, n);
        many += one.floor == side * TOP ? 1 : 0;
      }
      return many;
    }

    private void goThroughQuakes(int way, int n) {
      int quakes = way;
      for (int k = 0; k < ODDS_STEPS; k++) {
        if (k < n) {
          one.shove(quakes % 3 - 1);
          quakes /= 3;
        }
        // AT REST, and no QUAKE left that could stir it
        if (!goesOn() && k >= n) {
          break;
        }
      }
    }
  }

  /** LIFTS: tries all pairs in order, so that of several best ways the first stays. */
  static final class Pairs {
    private final int[] lower = new int[GOODS];
    private final int[] upper = new int[GOODS];
    private final int[] trial = new int[GOODS];
    private final int[] loads = new int[GOODS];
    private int lowers;
    private int uppers;
    int most;
    int bestSum;
    /** Of each of the GOODS the other one of its pair, or -1. */
    final int[] mate = new int[GOODS];

    void balance(Course course) {
      lowers = 0;
      uppers = 0;
      for (int i = 0; i < course.count; i++) {
        loads[i] = course.goods[i].load();
        if (course.goods[i].floor == 0) {
          lower[lowers] = i;
          lowers++;
        } else if (course.goods[i].floor == TOP) {
          upper[uppers] = i;
          uppers++;
        }
      }
      most = Math.min(lowers, uppers);
      bestSum = -1;
      pairFrom(0, 0, 0);
    }

    /** Pairs the GOODS of SIDE 0 from i on; taken has a bit for each of SIDE 1 that has a pair. */
    private void pairFrom(int i, int taken, int sum) {
      if (i >= lowers) {
        keepIfBetter(sum);
        return;
      }
      for (int j = 0; j < uppers; j++) {
        if ((taken >> j & 1) == 0) {
          trial[i] = j;
          pairFrom(i + 1, taken | 1 << j, sum + Math.abs(loads[lower[i]] - loads[upper[j]]));
        }
      }
      if (Integer.bitCount(taken) + lowers - i - 1 >= most) {
        trial[i] = -1;
        pairFrom(i + 1, taken, sum);
      }
    }

    private void keepIfBetter(int sum) {
      if (bestSum >= 0 && sum >= bestSum) {
        return;
      }
      bestSum = sum;
      Arrays.fill(mate, -1);
      for (int i = 0; i < lowers; i++) {
        if (trial[i] >= 0) {
          mate[lower[i]] = upper[trial[i]];
          mate[upper[trial[i]]] = lower[i];
        }
      }
    }
  }

  /** VOICES and THE TRACE of the latest one. */
  static final class Voices {
    private static final int FLOATS = 0;
    private static final int FALLS = 1;
    private static final int HANGS = 2;
    private static final int TELLS = 3;
    private static final int MOST_TRACE = 40;
    private static final int DEEPEST = 40;
    /** By KIND and act: the number of the BODY, 0 if the KIND has none of its own. */
    private static final int[] BODIES = {
      10, 11, 12, 13,
      0, 20, 0, 0,
      0, 0, 30, 0,
      40, 0, 0, 0,
      0, 0, 50, 51,
      0, 0, 0, 60,
      0, 70, 0, 0,
    };

    final int[] trace = new int[MOST_TRACE];
    int bodies;
    private int kind;
    private int n;
    private int m;

    int speak(Good g, int number, int act, int x) {
      kind = g.kind;
      n = number;
      m = g.m;
      bodies = 0;
      return own(act, x, 0);
    }

    private int own(int act, int x, int depth) {
      return from(kind, act, x, depth);
    }

    /** The VOICE as a KIND has it: its own BODY or that of the next KIND above that has one. */
    private int from(int start, int act, int x, int depth) {
      if (depth > DEEPEST) {
        return 0;
      }
      int body = bodyOf(start, act);
      note(body);
      int d = depth + 1;
      switch (body) {
        case 10: return x + n;
        case 11: return own(FLOATS, x, d) * 2;
        case 12: return x - m;
        case 13: return own(FALLS, x, d) ^ own(HANGS, x, d);
        case 20: return from(GOOD, FALLS, x, d) - own(HANGS, 1, d);
        case 30: return -from(GOOD, HANGS, x, d);
        case 40: return from(GOOD, FLOATS, x, d) * 3;
        case 50: return from(ROPED, HANGS, x, d) ^ n;
        case 51: return own(FALLS, x, d) - from(ROPED, TELLS, x, d);
        case 60: return from(GAS, TELLS, x, d) - own(FLOATS, 2, d);
        default: return from(STONE, FALLS, x + 1, d);
      }
    }

    private static int bodyOf(int start, int act) {
      int k = start;
      for (int i = 0; i < KINDS && ABOVE[k] >= 0 && BODIES[4 * k + act] == 0; i++) {
        k = ABOVE[k];
      }
      return BODIES[4 * k + act];
    }

    private void note(int body) {
      if (bodies < MOST_TRACE) {
        trace[bodies] = body;
        bodies++;
      }
    }
  }

  /** A row of numbers of 8, 16 or 32 bits; missing while bits is 0. */
  static final class Sheet {
    int bits;
    int length;
    final int[] numbers = new int[MOST_NUMBERS];

    boolean isMissing() {
      return bits == 0;
    }

    void clear(int newBits, int newLength) {
      bits = newBits;
      length = newLength;
      Arrays.fill(numbers, 0);
    }

    int lowestBits(int v) {
      if (bits == 32) {
        return v;
      }
      return bits == 8 ? (byte) v : (short) v;
    }

    boolean hasFrom(int i, int n) {
      return i >= 0 && n >= 0 && i <= length && n <= length - i;
    }
  }
}
