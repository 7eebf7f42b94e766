import java.lang.reflect.Method;
import java.lang.reflect.Modifier;
import java.nio.file.Files;
import java.nio.file.Path;
import java.util.ArrayList;
import java.util.HashSet;
import java.util.List;
import java.util.Set;
import java.util.regex.Matcher;
import java.util.regex.Pattern;
import javax.tools.ToolProvider;

// What README.md shows of the use of the class: each call there, put into a check, compiles and
// answers the number that stands behind it.
public final class ReadmeTest extends Checks {
  private static final String MAKING = "ScanDiagnose x = new ScanDiagnose();";
  private static final Pattern CALL =
      Pattern.compile("((?:int \\w+ = )?)(x\\.(\\w+)\\([^;\"]*\\));\\s+// (-?\\d+): \\S.*");

  private static List<String> shownLines() throws Exception {
    List<String> shown = new ArrayList<>();
    boolean inside = false;
    for (String line : Files.readAllLines(Path.of("README.md"))) {
      if (line.startsWith("```")) {
        inside = line.equals("```java");
      } else if (inside && !line.isBlank()) {
        shown.add(line.strip());
      }
    }
    return shown;
  }

  // A name that README.md gives to an answer stays, as later lines use it.
  private static String checkOf(Matcher call) {
    String due = "due(\"" + call.group(2) + "\", ";
    if (call.group(1).isEmpty()) return due + call.group(2) + ", " + call.group(4) + ");";
    String name = call.group(1).split(" ")[1];
    return call.group(1) + call.group(2) + "; " + due + name + ", " + call.group(4) + ");";
  }

  private static String checksOf(List<String> shown, Set<String> methods) {
    StringBuilder body = new StringBuilder();
    for (String line : shown) {
      Matcher call = CALL.matcher(line);
      if (call.matches()) {
        methods.add(call.group(3));
        body.append(checkOf(call)).append('\n');
      } else {
        must(line.equals(MAKING), "this line is a call with its answer: " + line);
        body.append(line).append('\n');
      }
    }
    return "final class ReadmeUse extends Checks { static void follow() {\n" + body + "} }\n";
  }

  // The classes go where this test's own lie, so that they can reach what the tests share.
  private static void follow(String source) throws Exception {
    String classes = System.getProperty("java.class.path");
    Path file = Path.of(classes, "ReadmeUse.java");
    Files.writeString(file, source);
    int code = ToolProvider.getSystemJavaCompiler().run(
        null, null, null, "--release", "17", "-cp", classes, "-d", classes, file.toString());
    must(code == 0, "what is shown compiles");
    if (code != 0) return;
    Method follow = Class.forName("ReadmeUse").getDeclaredMethod("follow");
    follow.invoke(null);
  }

  public static void main(String[] args) throws Exception {
    says("README.md");
    Set<String> methods = new HashSet<>();
    follow(checksOf(shownLines(), methods));
    for (Method method : ScanDiagnose.class.getDeclaredMethods()) {
      if (Modifier.isPublic(method.getModifiers())) {
        must(methods.contains(method.getName()), "the use of " + method.getName() + " is shown");
      }
    }
    end();
  }
}
