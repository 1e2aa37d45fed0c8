import java.io.IOException;
import java.lang.reflect.Method;
import java.lang.reflect.Modifier;
import java.nio.file.Files;
import java.nio.file.Path;
import java.util.regex.Matcher;
import java.util.regex.Pattern;

/** What README.md shows is so: each call in its examples, with the answer that stands behind it. */
public final class ReadmeTest {
  private static final Pattern CALL = Pattern.compile("x\\.(\\w+)\\(([^)]*)\\);\\s*// (-?\\d+)(:.*)?");
  private static final String NEW = "NeckWorlds x = new NeckWorlds();";
  private static final int SHOWN = 22;

  public static void main(String[] args) throws Exception {
    String page = Files.readString(Path.of("README.md"));
    namesTheFace(page);
    int shown = 0;
    for (int from = page.indexOf("```java\n"); from >= 0; from = page.indexOf("```java\n", from + 1)) {
      int begin = from + "```java\n".length();
      shown += example(page.substring(begin, page.indexOf("```", begin)));
    }
    Probe.due("calls that README.md shows", shown, SHOWN);
    Probe.end("ReadmeTest");
  }

  private static void namesTheFace(String page) {
    for (Method method : NeckWorlds.class.getDeclaredMethods()) {
      if (Modifier.isPublic(method.getModifiers())) {
        Probe.holds("README.md names " + method.getName(), page.contains("`" + method.getName() + "`"));
      }
    }
  }

  private static int example(String lines) throws Exception {
    NeckWorlds x = null;
    int calls = 0;
    for (String line : lines.split("\n")) {
      Matcher m = CALL.matcher(line);
      if (line.equals(NEW)) {
        x = new NeckWorlds();
      } else if (x != null && m.matches()) {
        Probe.due(line, answer(x, m.group(1), m.group(2)), Long.parseLong(m.group(3)));
        calls++;
      } else {
        Probe.holds("a call with its answer: " + line, false);
      }
    }
    return calls;
  }

  private static int answer(NeckWorlds x, String name, String given) throws Exception {
    String[] words = given.isEmpty() ? new String[0] : given.split(", ");
    for (Method method : NeckWorlds.class.getDeclaredMethods()) {
      if (method.getName().equals(name) && Modifier.isPublic(method.getModifiers())) {
        Object[] values = new Object[words.length];
        for (int i = 0; i < words.length; i++) {
          boolean isLong = method.getParameterTypes()[i] == long.class;
          long value = Long.decode(words[i].replace("L", ""));
          values[i] = isLong ? (Object) value : (Object) (int) value;
        }
        return (int) method.invoke(x, values);
      }
    }
    throw new IOException("no call " + name);
  }
}
