import java.io.IOException;
import java.lang.reflect.Constructor;
import java.lang.reflect.Field;
import java.lang.reflect.Method;
import java.lang.reflect.Modifier;
import java.nio.file.Files;
import java.nio.file.Path;
import java.util.Set;
import java.util.TreeSet;
import java.util.regex.Matcher;
import java.util.regex.Pattern;

/** The face that the document has, and the rules of LANGUAGE.md that a text can be searched for. */
public final class FaceTest {
  private static final Checks C = Checks.ALL;
  private static final String[] FACE = {"feed int int int int int", "end int", "out int", "line int",
    "alter int int", "cut int", "slip", "keys int int", "name", "counter int", "start long",
    "prove int", "send", "take", "answer int", "accept int", "seal int boolean",
    "secret int int int", "about int int"};
  private static final String[] BARRED = {"import ", "package ", "->", "::", "try ", "catch",
    "finally", "throw", "synchronized", "assert ", "native ", "@Override", "System.", "Math.random",
    "static {", "Thread", "Object", "instanceof", "hashCode", "toString", "\""};

  public static void main(String[] args) throws IOException {
    face();
    String source = Files.readString(Path.of(args[0]));
    for (String barred : BARRED) {
      C.due("uses " + barred, source.contains(barred) ? 1 : 0, 0);
    }
    C.due("signs beyond 127", source.chars().filter(c -> c > 126).count(), 0);
    shape(source);
    C.end();
  }

  private static void face() {
    C.part("face");
    Class<?> type = LineGuard.class;
    Set<String> methods = new TreeSet<>();
    Set<String> names = new TreeSet<>();
    for (Method method : type.getDeclaredMethods()) {
      if (Modifier.isPrivate(method.getModifiers())) {
        continue;
      }
      C.due(method + " gives an int", method.getReturnType().getName(), "int");
      C.due(method + " is public", Modifier.isPublic(method.getModifiers()) ? 1 : 0, 1);
      StringBuilder text = new StringBuilder(method.getName());
      for (Class<?> parameter : method.getParameterTypes()) {
        text.append(' ').append(parameter.getName());
      }
      methods.add(text.toString());
      names.add(method.getName());
    }
    C.due("methods", methods.toString(), new TreeSet<>(Set.of(FACE)).toString());
    for (Field field : type.getDeclaredFields()) {
      boolean hidden = Modifier.isPrivate(field.getModifiers());
      C.due(field + " is private", hidden ? 1 : 0, field.getName().equals("NONE") ? 0 : 1);
    }
    C.due("constructors", type.getDeclaredConstructors().length, 1);
    Constructor<?> constructor = type.getDeclaredConstructors()[0];
    C.due("constructor", Modifier.isPublic(constructor.getModifiers()) ? 1 : 0, 1);
    C.due("final", type.getModifiers(), Modifier.PUBLIC | Modifier.FINAL);
    C.due("classes inside", type.getDeclaredClasses().length <= 12 ? 1 : 0, 1);
    for (Class<?> inside : type.getDeclaredClasses()) {
      C.due(inside + " is static", Modifier.isStatic(inside.getModifiers()) ? 1 : 0, 1);
      C.due(inside + " is private", Modifier.isPrivate(inside.getModifiers()) ? 1 : 0, 1);
      insideFields(inside);
      for (Method method : inside.getDeclaredMethods()) {
        C.due(method + " bears a public name", names.contains(method.getName()) ? 1 : 0, 0);
      }
    }
  }

  private static void insideFields(Class<?> inside) {
    int own = 0;
    for (Field field : inside.getDeclaredFields()) {
      boolean constant = Modifier.isStatic(field.getModifiers());
      C.due(field + " is final", !constant || Modifier.isFinal(field.getModifiers()) ? 1 : 0, 1);
      own += constant ? 0 : 1;
    }
    C.due(inside + " has few fields", own <= 20 ? 1 : 0, 1);
  }

  /** No method of more than sixty lines, none of more than seven parameters. */
  private static void shape(String source) {
    C.part("shape");
    Pattern head = Pattern.compile("^( +)[a-zA-Z][^=;{]*\\(([^)]*)\\) \\{\\n(.*?)^\\1\\}\\n",
        Pattern.MULTILINE | Pattern.DOTALL);
    Matcher methods = head.matcher(source);
    int count = 0;
    while (methods.find()) {
      count++;
      String first = methods.group().lines().findFirst().orElse("");
      C.due(first + " lines", methods.group(3).lines().count() <= 60 ? 1 : 0, 1);
      C.due(first + " parameters", methods.group(2).split(",").length <= 7 ? 1 : 0, 1);
    }
    C.due("methods found", count > 80 ? 1 : 0, 1);
  }
}
