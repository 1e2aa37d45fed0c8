import com.sun.management.ThreadMXBean;
import java.io.IOException;
import java.lang.management.ManagementFactory;
import java.lang.reflect.Field;
import java.lang.reflect.Method;
import java.lang.reflect.Modifier;
import java.nio.file.Files;
import java.nio.file.Path;
import java.util.ArrayList;
import java.util.Arrays;
import java.util.List;
import java.util.TreeSet;
import java.util.regex.Matcher;
import java.util.regex.Pattern;

/** The public face, and of LANGUAGE.md what can be seen from the file, the class and its calls. */
public final class FaceTest {
  private static final Path SOURCE = Path.of("src/main/java/NeckWorlds.java");
  private static final Path DOCUMENT = Path.of("../shared/DOC.md");
  /** Rules 6 and 13, and what only stands for what rules 2 and 4 leave out. */
  private static final String[] BANNED = {"throw", "try", "catch", "synchronized", "assert", "package", "protected",
    "volatile", "transient", "native", "hashCode", "Object", "Thread", "Random", "currentTimeMillis", "nanoTime",
    "HashMap", "Map", "Set", "Stream", "Optional", "Scanner", "getenv", "getProperty"};

  public static void main(String[] args) throws IOException {
    face();
    members();
    classesInside();
    source();
    staysInTheRoom();
    Probe.end("FaceTest");
  }

  /** The face as the document writes it, and nothing more. */
  private static void face() throws IOException {
    String text = Files.readString(DOCUMENT);
    String block = text.substring(text.indexOf("public final class NeckWorlds {"));
    block = block.substring(0, block.indexOf("```"));
    TreeSet<String> wanted = new TreeSet<>();
    Matcher m = Pattern.compile("public int (\\w+)\\(([^)]*)\\);").matcher(block);
    while (m.find()) {
      wanted.add(m.group(1) + m.group(2).replaceAll("(int|long) \\w+", "$1").replace(" ", ""));
    }
    TreeSet<String> there = new TreeSet<>();
    for (Method method : NeckWorlds.class.getDeclaredMethods()) {
      if (Modifier.isPublic(method.getModifiers())) {
        List<String> types = new ArrayList<>();
        for (Class<?> type : method.getParameterTypes()) {
          types.add(type.getName());
        }
        there.add(method.getName() + String.join(",", types));
        Probe.holds(method.getName() + " gives an int", method.getReturnType() == int.class);
        Probe.holds(method.getName() + " isn't static", !Modifier.isStatic(method.getModifiers()));
      }
    }
    Probe.due("39 methods", wanted.size(), 39);
    Probe.holds("the face is " + there + ", due is " + wanted, there.equals(wanted));
    Probe.holds("public and final", Modifier.isPublic(NeckWorlds.class.getModifiers())
        && Modifier.isFinal(NeckWorlds.class.getModifiers()));
    Probe.due("one constructor", NeckWorlds.class.getDeclaredConstructors().length, 1);
    Probe.due("without parameters", NeckWorlds.class.getDeclaredConstructors()[0].getParameterCount(), 0);
  }

  /** Rule 1: nothing but the face is open. */
  private static void members() {
    TreeSet<String> open = new TreeSet<>();
    TreeSet<String> closed = new TreeSet<>();
    for (Method method : NeckWorlds.class.getDeclaredMethods()) {
      boolean isPublic = Modifier.isPublic(method.getModifiers());
      (isPublic ? open : closed).add(method.getName());
      Probe.holds(method.getName() + " is public or private",
          isPublic || Modifier.isPrivate(method.getModifiers()));
    }
    for (String name : closed) {
      Probe.holds(name + " isn't a public name, too", !open.contains(name));
    }
    for (Field field : NeckWorlds.class.getDeclaredFields()) {
      Probe.holds(field.getName() + " is private", Modifier.isPrivate(field.getModifiers()));
    }
  }

  /** Rules 2, 5 and 11. "Some" twelve and twenty are read with a little room. */
  private static void classesInside() {
    List<Class<?>> all = new ArrayList<>(Arrays.asList(NeckWorlds.class.getDeclaredClasses()));
    for (Class<?> c : all) {
      Probe.holds(c.getName() + " is static", Modifier.isStatic(c.getModifiers()));
      Probe.holds(c.getName() + " isn't open", !Modifier.isPublic(c.getModifiers())
          && !Modifier.isProtected(c.getModifiers()));
    }
    all.add(NeckWorlds.class);
    Probe.holds("some twelve classes", all.size() <= 14);
    for (Class<?> c : all) {
      int fields = 0;
      for (Field field : c.getDeclaredFields()) {
        boolean isStatic = Modifier.isStatic(field.getModifiers());
        fields += isStatic ? 0 : 1;
        Probe.holds(c.getName() + "." + field.getName() + " is final if static",
            !isStatic || Modifier.isFinal(field.getModifiers()));
      }
      Probe.holds(c.getName() + " has some twenty fields", fields <= 22);
      for (Method method : c.getDeclaredMethods()) {
        Probe.holds(method.getName() + " takes at most seven", method.getParameterCount() <= 7);
        Probe.holds(method.getName() + " is no lambda", !method.getName().startsWith("lambda$"));
      }
    }
  }

  /** Rules 1, 3, 4, 6, 11 and 13, as far as words tell. */
  private static void source() throws IOException {
    String text = Files.readString(SOURCE);
    String code = text.replaceAll("(?s)/\\*.*?\\*/", "").replaceAll("//[^\n]*", "")
        .replaceAll("\"[^\"\n]*\"", "\"\"").replaceAll("'[^'\n]*'", "' '");
    for (String word : BANNED) {
      Probe.holds("no " + word, !Pattern.compile("\\b" + word + "\\b").matcher(code).find());
    }
    Probe.holds("no method reference", !code.contains("::"));
    Probe.holds("none that ends in Exact", !Pattern.compile("\\w+Exact\\b").matcher(code).find());
    Probe.holds("no static block", !Pattern.compile("static\\s*\\{").matcher(code).find());
    Probe.holds("System only for arraycopy", !code.replace("System.arraycopy", "").contains("System"));
    Matcher imports = Pattern.compile("import ([\\w.* ]+);").matcher(code);
    List<String> library = List.of("java.util.Arrays", "java.util.ArrayList", "java.util.List", "java.util.Iterator");
    while (imports.find()) {
      Probe.holds("imports " + imports.group(1), library.contains(imports.group(1)));
    }
    Probe.holds("signs 1 to 127", text.chars().allMatch(c -> c > 0 && c < 128));
    int longest = 0;
    int start = 0;
    String[] lines = text.split("\n");
    for (int i = 0; i < lines.length; i++) {
      if (lines[i].matches("    (\\s\\s)?\\w.*\\) \\{|  (public|private) .*\\) \\{")) start = i;
      if (lines[i].equals("  }") || lines[i].equals("    }")) longest = Math.max(longest, i - start);
    }
    Probe.holds("methods of some sixty lines, not " + longest, longest <= 66);
  }

  /**
   * "All calls of one run live in ONE room: some 600,000 objects and arrays, 7.3 million fields and
   * elements in all": 512 calls of each kind take fewer bytes than that, so they have less of either.
   */
  private static void staysInTheRoom() {
    ThreadMXBean bean = (ThreadMXBean) ManagementFactory.getThreadMXBean();
    long most = 0;
    for (int round = 0; round < 3; round++) {
      most = 0;
      for (int act = 0; act < 40; act++) {
        long before = bean.getCurrentThreadAllocatedBytes();
        NeckWorlds x = new NeckWorlds();
        String text = "(20-f)/4+m%3|!(f<9&f>3)";
        for (int i = 0; i < 8; i++) x.good(i * 9, i * 5 % 41);
        for (int i = 0; i < text.length(); i++) x.feed(text.charAt(i), 1);
        x.text(0);
        for (int i = 0; i < 470; i++) oneCall(x, act, i);
        most = Math.max(most, bean.getCurrentThreadAllocatedBytes() - before);
      }
    }
    Probe.holds("the dearest run makes " + most + " bytes", most < 7300000);
  }

  private static void oneCall(NeckWorlds x, int act, int i) {
    int good = i % 8;
    switch (act) {
      case 0: x.ofGood(good, i % 11); break;
      case 1: x.become(good, i % 70); break;
      case 2: x.as(good, 1); break;
      case 3: x.place(good, i % 41); break;
      case 4: x.push(good, 3); break;
      case 5: x.off(0, 1, 2); break;
      case 6: x.set(0, 2 + i % 20); break;
      case 7: x.door(0, 3); break;
      case 8: x.lineUp(2, 3); break;
      case 9: x.law(0, i, 3, 0); break;
      case 10: x.steps(21); break;
      case 11: x.loose(21); break;
      case 12: x.then(200, good, 2); break;
      case 13: x.rests(good, 0); break;
      case 14: x.first(); break;
      case 15: x.over(good, 1, 4); break;
      case 16: x.soonest(good, 0, 0); break;
      case 17: x.least(good, 1); break;
      case 18: x.lifts(-1); break;
      case 19: x.sheet(i % 4, 8, 40); break;
      default: oneMoreCall(x, act, i);
    }
  }

  private static void oneMoreCall(NeckWorlds x, int act, int i) {
    int good = i % 8;
    switch (act) {
      case 20: x.sheet(0, 8, 1); x.rolled(good, 0, 0); break;
      case 21: x.sheet(0, 8, 1); x.whose(good, 0); break;
      case 22: x.odds(good, 0, 5, 0); break;
      case 23: x.seed(i); break;
      case 24: x.voice(good, 3, i); break;
      case 25: x.trace(2); break;
      case 26: x.put(0, 1, 4); break;
      case 27: x.move(0, 1, 0, 2, 2); break;
      case 28: x.pushes(0); break;
      case 29: x.judge(0); break;
      case 30: x.image(); break;
      case 31: x.image(); x.restore(); break;
      case 32: x.tell(4); break;
      case 33: x.tell(4); x.check(); break;
      case 34: x.count(i % 11); break;
      case 35: x.told(1); break;
      case 36: x.feed(i, 1); break;
      case 37: x.feed('f', 1); x.text(0); break;
      case 38: x.good(i % 70, 3); break;
      default: x.check();
    }
  }
}
