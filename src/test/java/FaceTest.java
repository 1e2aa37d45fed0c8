import com.sun.management.ThreadMXBean;
import java.io.IOException;
import java.lang.management.ManagementFactory;
import java.lang.reflect.Field;
import java.lang.reflect.Method;
import java.lang.reflect.Modifier;
import java.nio.file.Files;
import java.nio.file.Path;
import java.util.ArrayList;
import java.util.Arrays;
import java.util.List;
import java.util.TreeSet;
import java.util.regex.Matcher;
import java.util.regex.Pattern;

/** The public face, and of LANGUAGE.md what can be seen from the file, the class and its calls. */
public final class FaceTest {
  private static final Path SOURCE = Path.of("src/main/java/NeckWorlds.java");
  private static final Path DOCUMENT = Path.of("../shared/DOC.md");
  private static final String[] BANNED = {"throw", "try", "catch", "synchronized", "assert", "import static",
    "->", "::", "Exact", "Object", "Thread", "System.out", "System.err", "Random", "currentTime", "nanoTime",
    "hashCode", "toString", "HashMap", "var ", "yield", "static {", "protected", "volatile", "transient"};

  public static void main(String[] args) throws IOException {
    face();
    members();
    classesInside();
    source();
    makesNothing();
    Probe.end("FaceTest");
  }

  /** The face as the document writes it, and nothing more. */
  private static void face() throws IOException {
    String text = Files.readString(DOCUMENT);
    String block = text.substring(text.indexOf("public final class NeckWorlds {"));
    block = block.substring(0, block.indexOf("```"));
    TreeSet<String> wanted = new TreeSet<>();
    Matcher m = Pattern.compile("public int (\\w+)\\(([^)]*)\\);").matcher(block);
    while (m.find()) {
      wanted.add(m.group(1) + m.group(2).replaceAll("(int|long) \\w+", "$1").replace(" ", ""));
    }
    TreeSet<String> there = new TreeSet<>();
    for (Method method : NeckWorlds.class.getDeclaredMethods()) {
      if (Modifier.isPublic(method.getModifiers())) {
        List<String> types = new ArrayList<>();
        for (Class<?> type : method.getParameterTypes()) {
          types.add(type.getName());
        }
        there.add(method.getName() + String.join(",", types));
        Probe.holds(method.getName() + " gives an int", method.getReturnType() == int.class);
        Probe.holds(method.getName() + " isn't static", !Modifier.isStatic(method.getModifiers()));
      }
    }
    Probe.due("39 methods", wanted.size(), 39);
    Probe.holds("the face is " + there + ", due is " + wanted, there.equals(wanted));
    Probe.holds("public and final", Modifier.isPublic(NeckWorlds.class.getModifiers())
        && Modifier.isFinal(NeckWorlds.class.getModifiers()));
    Probe.due("one constructor", NeckWorlds.class.getDeclaredConstructors().length, 1);
    Probe.due("without parameters", NeckWorlds.class.getDeclaredConstructors()[0].getParameterCount(), 0);
  }

  private static void members() {
    TreeSet<String> open = new TreeSet<>();
    TreeSet<String> closed = new TreeSet<>();
    for (Method method : NeckWorlds.class.getDeclaredMethods()) {
      boolean isPublic = Modifier.isPublic(method.getModifiers());
      (isPublic ? open : closed).add(method.getName());
      Probe.holds(method.getName() + " is public or private",
          isPublic || Modifier.isPrivate(method.getModifiers()));
      Probe.holds(method.getName() + " takes at most seven", method.getParameterCount() <= 7);
    }
    for (String name : closed) {
      Probe.holds(name + " isn't a public name, too", !open.contains(name));
    }
    for (Field field : NeckWorlds.class.getDeclaredFields()) {
      Probe.holds(field.getName() + " is private", Modifier.isPrivate(field.getModifiers()));
    }
  }

  private static void classesInside() {
    Class<?>[] inside = NeckWorlds.class.getDeclaredClasses();
    Probe.holds("at most twelve classes", inside.length + 1 <= 12);
    List<Class<?>> all = new ArrayList<>(Arrays.asList(inside));
    all.add(NeckWorlds.class);
    for (Class<?> c : all) {
      int fields = 0;
      for (Field field : c.getDeclaredFields()) {
        boolean isStatic = Modifier.isStatic(field.getModifiers());
        fields += isStatic ? 0 : 1;
        Probe.holds(c.getName() + "." + field.getName() + " is final if static",
            !isStatic || Modifier.isFinal(field.getModifiers()));
        Probe.holds(c.getName() + "." + field.getName() + " is a constant of a type that rule 5 names",
            !isStatic || List.of(int.class, long.class, boolean.class, char.class, String.class, int[].class,
            long[].class, char[].class, byte[].class).contains(field.getType()));
      }
      Probe.holds(c.getName() + " has at most twenty fields", fields <= 20);
    }
    for (Class<?> c : inside) {
      Probe.holds(c.getName() + " is static and final", Modifier.isStatic(c.getModifiers())
          && Modifier.isFinal(c.getModifiers()));
      Probe.holds(c.getName() + " isn't public", !Modifier.isPublic(c.getModifiers()));
    }
  }

  private static void source() throws IOException {
    String text = Files.readString(SOURCE);
    String code = text.replaceAll("(?s)/\\*.*?\\*/", "").replaceAll("//[^\n]*", "");
    for (String word : BANNED) {
      Probe.holds("no " + word, !code.contains(word));
    }
    Matcher imports = Pattern.compile("import ([\\w.]+);").matcher(code);
    while (imports.find()) {
      Probe.holds("imports " + imports.group(1), imports.group(1).equals("java.util.Arrays"));
    }
    Probe.holds("no package", !code.contains("package "));
    Probe.holds("signs 1 to 127", text.chars().allMatch(c -> c > 0 && c < 128));
    int longest = 0;
    int start = 0;
    String[] lines = text.split("\n");
    for (int i = 0; i < lines.length; i++) {
      if (lines[i].matches("    (\\s\\s)?\\w.*\\) \\{|  (public|private) .*\\) \\{")) start = i;
      if (lines[i].equals("  }") || lines[i].equals("    }")) longest = Math.max(longest, i - start);
    }
    Probe.holds("methods stay under sixty lines, not " + longest, longest <= 60);
  }

  /** All calls of a run live in one room: what is made is made in the constructor. */
  private static void makesNothing() {
    ThreadMXBean bean = (ThreadMXBean) ManagementFactory.getThreadMXBean();
    long[] made = new long[3];
    for (int round = 0; round < made.length; round++) {
      NeckWorlds x = new NeckWorlds();
      String text = "(20-f)/4+m%3|!(f<9&f>3)";
      long before = bean.getCurrentThreadAllocatedBytes();
      for (int i = 0; i < 8; i++) x.good(i * 9, i * 5 % 41);
      for (int i = 0; i < text.length(); i++) x.feed(text.charAt(i), 1);
      x.text(0);
      x.feed('l', 1);
      x.text(1);
      for (int i = 0; i < 10; i++) everyCall(x, i);
      made[round] = bean.getCurrentThreadAllocatedBytes() - before;
    }
    Probe.holds("no call makes an object, " + made[2] + " bytes were made", made[2] < 256);
  }

  private static void everyCall(NeckWorlds x, int i) {
    int good = i % 8;
    for (int k = 0; k < 11; k++) {
      x.ofGood(good, k);
      x.count(k);
    }
    x.become(good, i * 7);
    x.as(good, 1);
    x.place(good, i);
    x.push(good, 3);
    x.off(0, 1, 2);
    x.set(0, 9);
    x.door(0, 3);
    x.lineUp(2, 3);
    x.law(0, i, 3, 0);
    x.steps(2);
    x.loose(2);
    x.then(50, good, 2);
    x.rests(good, 0);
    x.first();
    x.over(good, 1, 4);
    x.soonest(good, 0, 0);
    x.least(good, 1);
    x.lifts(-1);
    x.sheet(i % 4, 8, 5);
    x.rolled(good, i % 4, 0);
    x.whose(good, i % 4);
    x.odds(good, 0, 5, 0);
    x.seed(i);
    x.voice(good, 3, i);
    x.trace(2);
    x.put(0, 1, 4);
    x.move(0, 1, 0, 2, 2);
    x.pushes(0);
    x.judge(0);
    x.image();
    x.restore();
    x.tell(4);
    x.check();
    x.told(1);
  }
}
