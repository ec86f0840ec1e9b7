import java.io.IOException;
import java.nio.file.Files;
import java.nio.file.Path;
import java.util.List;
import java.util.regex.Matcher;
import java.util.regex.Pattern;
import java.util.stream.Stream;

/** Those rules of LANGUAGE.md, and of catching, that can be seen in the text of the program. Runs where .ci/run does. */
public final class LanguageTest {
  private static final Due DUE = new Due();
  private static final Path MAIN = Path.of("src", "main", "java");

  /** Rules 2, 3, 4, 5, 6 and 13. */
  private static final String[] NEVER = {"->", "::", "\\bsynchronized\\b", "\\bassert\\b", "\\bfinally\\b", "\\bprotected\\b",
    "\\bpackage\\b", "Exact\\b", "\\bstatic \\{", "\\btry \\(", "getMessage", "hashCode", "toString", "\\bSystem\\.(?!arraycopy\\b)",
    "\\bRandom\\b", "\\bThread\\b", "\\bThrowable\\b", "\\bError\\b", "catch \\((RuntimeException|Exception)\\b",
    "\\b(ArrayIndexOutOfBounds|NullPointer|ClassCast|NegativeArraySize|ArrayStore|Arithmetic)Exception\\b",
    "\\bextends \\w*Exception\\b", "\\bMath\\.(random|sqrt|pow|floor|ceil|round)\\b"};

  public static void main(String[] args) throws IOException {
    try (Stream<Path> files = Files.walk(MAIN)) {
      DUE.is("files of the program", files.filter(Files::isRegularFile).count(), 1);
    }
    String told = Files.readString(MAIN.resolve("CandleMeadow.java"));
    String code = withoutTexts(told);
    for (String never : NEVER) {
      DUE.is("never: " + never, count(never, code), 0);
    }
    imports(code);
    DUE.is("public classes", count("\\bpublic (final )?class\\b", code), 1);
    DUE.is("some twelve classes", count("\\b(class|interface|enum|record) [A-Z]", code) <= 12 ? 1 : 0, 1);
    staticFields(code);
    methods(code.split("\n"));
    for (int i = 0; i < told.length(); i++) {
      if (told.charAt(i) > 127) {
        DUE.is("sign at " + i, told.charAt(i), 0);
      }
    }
    DUE.end();
  }

  private static String withoutTexts(String told) {
    String code = Pattern.compile("/\\*.*?\\*/", Pattern.DOTALL).matcher(told).replaceAll("");
    return code.replaceAll("//[^\n]*", "").replaceAll("\"[^\"\n]*\"", "\"\"");
  }

  private static int count(String pattern, String code) {
    Matcher matcher = Pattern.compile(pattern).matcher(code);
    int count = 0;
    while (matcher.find()) {
      count++;
    }
    return count;
  }

  private static void imports(String code) {
    List<String> allowed = List.of("Arrays", "ArrayList", "List", "Iterator", "NoSuchElementException");
    Matcher matcher = Pattern.compile("import ([\\w.*]+);").matcher(code);
    while (matcher.find()) {
      String name = matcher.group(1);
      boolean fine = name.startsWith("java.util.") && allowed.contains(name.substring("java.util.".length()));
      DUE.is("import " + name, fine ? 1 : 0, 1);
    }
  }

  /** Rule 5: a static field is final. */
  private static void staticFields(String code) {
    Matcher matcher = Pattern.compile("\\bstatic ([^({;]*)[=;]").matcher(code);
    while (matcher.find()) {
      DUE.is("static and final: " + matcher.group(), matcher.group(1).startsWith("final ") ? 1 : 0, 1);
    }
  }

  /** Rule 11: sixty lines and seven parameters at most. */
  private static void methods(String[] lines) {
    Pattern head = Pattern.compile("^( {4}| {8})[\\w\\[\\] ]*\\b(\\w+)\\(([^)]*)\\)[\\w, ]* \\{$");
    int seen = 0;
    for (int i = 0; i < lines.length; i++) {
      Matcher matcher = head.matcher(lines[i]);
      if (!matcher.matches() || matcher.group(2).matches("if|for|while|switch|catch")) {
        continue;
      }
      seen++;
      int end = i;
      while (end < lines.length && !lines[end].equals(matcher.group(1) + "}")) {
        end++;
      }
      DUE.is("lines of " + matcher.group(2), end - i < 60 ? 1 : 0, 1);
      DUE.is("parameters of " + matcher.group(2), matcher.group(3).split(",").length <= 7 ? 1 : 0, 1);
    }
    DUE.is("methods are seen", seen >= 32 ? 1 : 0, 1);
  }
}
