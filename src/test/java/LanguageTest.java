import java.io.IOException;
import java.lang.reflect.Field;
import java.lang.reflect.Method;
import java.lang.reflect.Modifier;
import java.nio.file.Files;
import java.nio.file.Path;
import java.util.HashMap;
import java.util.HashSet;
import java.util.Map;
import java.util.Set;
import java.util.TreeSet;
import java.util.regex.Matcher;
import java.util.regex.Pattern;

/** The public face of the document, and those rules of LANGUAGE.md that can be read off the class. */
public final class LanguageTest {
  private static final Due DUE = new Due("LanguageTest");
  private static final String[] FACE = {
    "int give(int, int, int)", "int take()", "int closure(int)", "boolean follows(int, int)",
    "boolean bundles(int, int)", "int needs(int, int)", "int keys()", "int key(int)", "int closed()",
    "int corners()", "int stems()", "int stem(int)", "boolean third(int)", "boolean boyce(int)",
    "boolean fourth()", "int part(int)", "void whole()", "boolean lossless()", "boolean preserves()",
    "int row()", "int write(int, int, int)", "void blank()", "boolean keeps(int, int)",
    "boolean keepsBundled(int, int)", "int discovered()", "int agreements()", "boolean exact()",
  };
  private static final String[] FORBIDDEN_WORDS = {
    "import", "package", "throw", "throws", "try", "catch", "finally", "synchronized", "assert",
    "instanceof", "float", "double", "null", "String", "Object", "Math", "Integer", "Long", "System",
    "Arrays", "enum", "interface", "record", "protected", "var", "getClass", "hashCode", "equals",
  };

  public static void main(String[] args) throws IOException {
    face();
    fields();
    String source = Files.readString(Path.of("src/main/java/DependencyDesk.java"));
    String code = source.replaceAll("(?s)/\\*.*?\\*/", "").replaceAll("//[^\n]*", "");
    words(code);
    arrays(code);
    calls(code);
    DUE.end();
  }

  private static String headOf(Method method) {
    StringBuilder head = new StringBuilder(method.getReturnType() + " " + method.getName() + "(");
    for (Class<?> type : method.getParameterTypes()) {
      head.append(head.charAt(head.length() - 1) == '(' ? "" : ", ").append(type);
    }
    return head.append(")").toString();
  }

  private static void face() {
    Set<String> open = new TreeSet<>();
    Set<String> openNames = new HashSet<>();
    for (Method method : DependencyDesk.class.getDeclaredMethods()) {
      if (Modifier.isPublic(method.getModifiers())) {
        open.add(headOf(method));
        openNames.add(method.getName());
        DUE.is("static " + method.getName(), Modifier.isStatic(method.getModifiers()), false);
      }
    }
    for (String head : FACE) {
      DUE.is("is there: " + head, open.remove(head), true);
    }
    DUE.is("public methods beside the face " + open, open.size(), 0);
    for (Method method : DependencyDesk.class.getDeclaredMethods()) {
      if (!Modifier.isPublic(method.getModifiers())) {
        DUE.is("private " + method.getName(), Modifier.isPrivate(method.getModifiers()), true);
        DUE.is("public name for private " + method.getName(), openNames.contains(method.getName()), false);
        DUE.is("at most seven parameters " + method.getName(), method.getParameterCount() <= 7, true);
      }
    }
    int modifiers = DependencyDesk.class.getModifiers();
    DUE.is("public and final", Modifier.isPublic(modifiers) && Modifier.isFinal(modifiers), true);
    DUE.is("constructors", DependencyDesk.class.getDeclaredConstructors().length, 1);
    DUE.is("public constructors", DependencyDesk.class.getConstructors().length, 1);
    DUE.is("nested classes", DependencyDesk.class.getDeclaredClasses().length, 0);
  }

  private static void fields() {
    Set<String> open = new TreeSet<>();
    int held = 0;
    for (Field field : DependencyDesk.class.getDeclaredFields()) {
      int modifiers = field.getModifiers();
      if (Modifier.isPublic(modifiers)) {
        open.add(field.getName());
      } else {
        DUE.is("private " + field.getName(), Modifier.isPrivate(modifiers), true);
      }
      if (Modifier.isStatic(modifiers)) {
        boolean isNumber = field.getType() == int.class || field.getType() == long.class;
        DUE.is("constant " + field.getName(), isNumber && Modifier.isFinal(modifiers), true);
      } else {
        held++;
        DUE.is("final array " + field.getName(), !field.getType().isArray() || Modifier.isFinal(modifiers), true);
      }
    }
    DUE.is("public fields " + open, open.equals(Set.of("BAD_ARG", "FULL", "NONE")), true);
    DUE.is("at most forty fields", held <= 40, true);
  }

  private static void words(String code) {
    for (String word : FORBIDDEN_WORDS) {
      DUE.is("the word " + word, Pattern.compile("\\b" + word + "\\b").matcher(code).find(), false);
    }
    DUE.is("a lambda", code.contains("->"), false);
    DUE.is("a method reference", code.contains("::"), false);
    DUE.is("a text", code.contains("\""), false);
  }

  private static void arrays(String code) {
    for (String line : code.split("\n")) {
      if (line.matches(".*\\bnew\\b.*")) {
        DUE.is("an array of a field: " + line.strip(),
            line.matches("  private final (int|boolean)\\[\\] \\w+ = new (int|boolean)\\[[A-Z_]+\\];"), true);
      }
    }
  }

  /** Looks at which method calls which, and at calls inside the arguments of calls. */
  private static void calls(String code) {
    Map<String, String> bodies = new HashMap<>();
    Matcher heads = Pattern.compile("(?m)^  (?:public|private) [\\w ]*?(\\w+)\\([^)]*\\) \\{\n((?s:.*?))^  \\}").matcher(code);
    while (heads.find()) {
      bodies.put(heads.group(1), heads.group(2));
      DUE.is("length of " + heads.group(1), heads.group(2).lines().count() <= 60, true);
    }
    DUE.is("methods found", bodies.size(), DependencyDesk.class.getDeclaredMethods().length + 1);
    String names = "\\b(?:" + String.join("|", bodies.keySet()) + ")\\(";
    for (Map.Entry<String, String> method : bodies.entrySet()) {
      DUE.is("calls inside arguments in " + method.getKey(), nestedCalls(method.getValue(), names), 0);
      DUE.is("calls six deep at most from " + method.getKey(), depth(method.getKey(), bodies, 0) <= 6, true);
    }
  }

  private static int nestedCalls(String body, String names) {
    int nested = 0;
    Matcher call = Pattern.compile(names).matcher(body);
    while (call.find()) {
      int open = 1;
      int end = call.end();
      while (open > 0) {
        open += body.charAt(end) == '(' ? 1 : body.charAt(end) == ')' ? -1 : 0;
        end++;
      }
      nested += Pattern.compile(names).matcher(body.substring(call.end(), end)).find() ? 1 : 0;
    }
    return nested;
  }

  /** The number of methods in the longest chain of calls; a recursion shows as a chain without end. */
  private static int depth(String name, Map<String, String> bodies, int above) {
    int deepest = 0;
    for (String other : bodies.keySet()) {
      if (above < 20 && Pattern.compile("\\b" + other + "\\(").matcher(bodies.get(name)).find()) {
        deepest = Math.max(deepest, depth(other, bodies, above + 1));
      }
    }
    return above == 20 ? 1000 : deepest + 1;
  }
}
