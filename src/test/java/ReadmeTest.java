import java.io.IOException;
import java.lang.reflect.Method;
import java.lang.reflect.Modifier;
import java.nio.file.Files;
import java.nio.file.Path;
import java.util.Set;
import java.util.TreeSet;
import java.util.regex.Matcher;
import java.util.regex.Pattern;

/**
 * The runs of calls that the README shows. Of a line the last call's answer stands behind its "//";
 * each block makes its own object, and together they call the whole face.
 */
public final class ReadmeTest {
  private static final Checks C = Checks.ALL;
  private static final Pattern BLOCK =
      Pattern.compile("^```java\\n(.*?)^```$", Pattern.MULTILINE | Pattern.DOTALL);
  private static final Pattern CALL =
      Pattern.compile("(LineGuard x = new LineGuard\\(\\)|x\\.(\\w+)\\(([^)]*)\\)); *");
  private static final Pattern DUE = Pattern.compile(" *(NONE|0x[0-9A-F]+|[0-9]+)(, .*)?");

  private final Set<String> called = new TreeSet<>();
  private LineGuard x = null;
  private int calls = 0;

  public static void main(String[] args) throws IOException, ReflectiveOperationException {
    String readme = Files.readString(Path.of(args[2]));
    ReadmeTest test = new ReadmeTest();
    Matcher blocks = BLOCK.matcher(readme);
    int count = 0;
    while (blocks.find()) {
      count++;
      test.x = null;
      for (String line : blocks.group(1).split("\n")) {
        test.line(line);
      }
    }
    C.part("README.md");
    C.due("runs, one by either RULE at least", count >= 2 ? 1 : 0, 1);
    C.due("methods called", test.called.toString(), face().toString());
    C.due("tells how long an object is used", readme.contains("at most 512 calls") ? 1 : 0, 1);
    C.end();
  }

  private static Set<String> face() {
    Set<String> all = new TreeSet<>();
    for (Method method : LineGuard.class.getDeclaredMethods()) {
      if (Modifier.isPublic(method.getModifiers())) {
        all.add(method.getName());
      }
    }
    return all;
  }

  private void line(String line) throws ReflectiveOperationException {
    C.part("README.md, '" + line.strip() + "'");
    int comment = line.indexOf("//");
    String code = comment < 0 ? line : line.substring(0, comment);
    if (code.isBlank()) {
      return;
    }
    int got = calls(code.strip());
    if (comment >= 0) {
      Matcher due = DUE.matcher(line.substring(comment + 2));
      if (due.matches()) {
        C.due("the last call", got, due.group(1).equals("NONE") ? LineGuard.NONE
            : Long.decode(due.group(1)));
      } else {
        C.fault("tells no answer");
      }
    }
  }

  private int calls(String code) throws ReflectiveOperationException {
    Matcher call = CALL.matcher(code);
    int end = 0;
    int got = 0;
    while (end < code.length() && call.find(end) && call.start() == end) {
      end = call.end();
      if (call.group(2) == null) {
        x = new LineGuard();
        calls = 0;
      } else {
        got = call(call.group(2), call.group(3));
      }
    }
    C.due("is calls alone, up to", end, code.length());
    return got;
  }

  private int call(String name, String told) throws ReflectiveOperationException {
    String[] words = told.isEmpty() ? new String[0] : told.split(", ");
    for (Method method : LineGuard.class.getDeclaredMethods()) {
      Class<?>[] types = method.getParameterTypes();
      if (method.getName().equals(name) && types.length == words.length) {
        Object[] values = new Object[words.length];
        for (int i = 0; i < words.length; i++) {
          values[i] = value(words[i], types[i]);
        }
        called.add(name);
        calls++;
        C.due("calls of one object within 512", calls <= 512 ? 1 : 0, 1);
        return (int) method.invoke(x, values);
      }
    }
    C.fault("no such call");
    return 0;
  }

  private static Object value(String word, Class<?> type) {
    if (type == boolean.class) {
      return Boolean.valueOf(word);
    }
    long number = Long.decode(word.replace("L", ""));
    if (type == long.class) {
      return number;
    }
    return (int) number;
  }
}
