import java.lang.reflect.Field;
import java.lang.reflect.Method;
import java.lang.reflect.Modifier;
import java.nio.file.Files;
import java.nio.file.Path;
import java.util.regex.Matcher;
import java.util.regex.Pattern;

/** README.md tells each call of the public face, and the answers in its example are true. */
public final class ReadmeTest {
  private static final Pattern EXAMPLE_CALL = Pattern.compile("desk\\.(\\w+)\\(([\\d, ]*)\\); +// (\\w+)(: .*)?");
  private static final Due DUE = new Due("ReadmeTest");

  public static void main(String[] args) throws Exception {
    String readme = Files.readString(Path.of("README.md"));
    face(readme);
    constants(readme);
    tests(readme);
    int begin = readme.indexOf("```java\n");
    example(readme.substring(begin + 8, readme.indexOf("```\n", begin + 8)));
    DUE.end();
  }

  private static void face(String readme) {
    for (Method method : DependencyDesk.class.getDeclaredMethods()) {
      if (Modifier.isPublic(method.getModifiers())) {
        String head = "(?m)^\\| `" + method.getReturnType() + " " + method.getName() + "\\("
            + "int \\w+, ".repeat(method.getParameterCount()).replaceAll(", $", "") + "\\)` \\| \\S.* \\|$";
        DUE.is("README tells " + method.getName(), Pattern.compile(head).matcher(readme).find(), true);
      }
    }
    DUE.is("README tells the constructor", readme.contains("| `DependencyDesk()` |"), true);
  }

  private static void constants(String readme) throws IllegalAccessException {
    for (Field field : DependencyDesk.class.getFields()) {
      String line = "| `" + field.getName() + "` | " + field.getInt(null) + " |";
      DUE.is("README tells " + field.getName(), readme.contains(line), true);
    }
  }

  private static void tests(String readme) throws Exception {
    try (var files = Files.list(Path.of("src/test/java"))) {
      files.map(file -> file.getFileName().toString()).filter(name -> name.endsWith("Test.java")).forEach(name ->
          DUE.is("README tells " + name, readme.contains("- `" + name.replace(".java", "") + "`: "), true));
    }
  }

  private static void example(String code) throws Exception {
    DependencyDesk desk = new DependencyDesk();
    int calls = 0;
    for (String line : code.split("\n")) {
      Matcher call = EXAMPLE_CALL.matcher(line);
      if (call.matches()) {
        calls++;
        DUE.is("README's example: " + line, answer(desk, call.group(1), call.group(2)), number(call.group(3)));
      } else {
        boolean isOther = line.isEmpty() || line.equals("DependencyDesk desk = new DependencyDesk();");
        DUE.is("README's example has no answer: " + line, isOther, true);
      }
    }
    DUE.is("README's example has calls", calls > 0, true);
  }

  private static long answer(DependencyDesk desk, String name, String list) throws Exception {
    String[] texts = list.isEmpty() ? new String[0] : list.split(", ");
    Class<?>[] types = new Class<?>[texts.length];
    Object[] arguments = new Object[texts.length];
    for (int i = 0; i < texts.length; i++) {
      types[i] = int.class;
      arguments[i] = Integer.valueOf(texts[i]);
    }
    return number(String.valueOf(DependencyDesk.class.getMethod(name, types).invoke(desk, arguments)));
  }

  private static long number(String answer) throws Exception {
    return switch (answer) {
      case "true" -> 1;
      case "false" -> 0;
      case "BAD_ARG", "FULL", "NONE" -> DependencyDesk.class.getField(answer).getInt(null);
      default -> Long.parseLong(answer);
    };
  }
}
