import java.io.IOException;
import java.lang.reflect.InvocationTargetException;
import java.lang.reflect.Method;
import java.lang.reflect.Modifier;
import java.nio.file.Files;
import java.nio.file.Path;
import java.util.HashSet;
import java.util.Set;
import java.util.regex.Matcher;
import java.util.regex.Pattern;

/** README.md tells the truth: its example's answers are those of the class, and it names every call. Runs where .ci/run does. */
public final class ReadmeTest {
  private static final Due DUE = new Due();
  private static final Pattern LINE = Pattern.compile("meadow\\.(\\w+)\\(([^)]*)\\);\\s*// (-?\\d+): .*");

  public static void main(String[] args) throws IOException, ReflectiveOperationException {
    String readme = Files.readString(Path.of("README.md"));
    int start = readme.indexOf("```java\n");
    int end = readme.indexOf("\n```\n", start + 1);
    DUE.is("README.md has an example", start >= 0 && end > start ? 1 : 0, 1);
    if (start >= 0 && end > start) {
      example(readme.substring(start, end).split("\n"));
    }
    for (Method method : CandleMeadow.class.getDeclaredMethods()) {
      if (Modifier.isPublic(method.getModifiers())) {
        String name = method.getName();
        DUE.is("README.md names " + name, readme.contains("`" + name + "`") ? 1 : 0, 1);
      }
    }
    DUE.is("README.md says how to run the tests", readme.contains("    .ci/run\n") ? 1 : 0, 1);
    DUE.end();
  }

  /** Line 0 opens the block, line 1 makes the object. */
  private static void example(String[] lines) throws ReflectiveOperationException {
    CandleMeadow meadow = new CandleMeadow();
    Set<String> called = new HashSet<>();
    DUE.says("first line", lines[1], "CandleMeadow meadow = new CandleMeadow();");
    for (int i = 2; i < lines.length; i++) {
      Matcher line = LINE.matcher(lines[i]);
      if (!line.matches()) {
        DUE.says("a line of another form", lines[i], "");
        continue;
      }
      called.add(line.group(1));
      DUE.says(lines[i], answer(meadow, line.group(1), line.group(2)), line.group(3));
    }
    DUE.is("calls of the example", called.size() >= 10 ? 1 : 0, 1);
  }

  private static String answer(CandleMeadow meadow, String name, String values) throws ReflectiveOperationException {
    String[] parts = values.isEmpty() ? new String[0] : values.split(", ");
    for (Method method : CandleMeadow.class.getDeclaredMethods()) {
      if (!method.getName().equals(name) || method.getParameterCount() != parts.length) {
        continue;
      }
      Object[] given = new Object[parts.length];
      for (int i = 0; i < parts.length; i++) {
        boolean truth = method.getParameterTypes()[i] == boolean.class;
        given[i] = truth ? (Object) Boolean.valueOf(parts[i]) : (Object) Integer.valueOf(parts[i]);
      }
      try {
        return String.valueOf(method.invoke(meadow, given));
      } catch (InvocationTargetException e) {
        return "throws." + e.getCause().getClass().getSimpleName();
      }
    }
    return "no such call";
  }
}
