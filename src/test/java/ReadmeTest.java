import java.io.IOException;
import java.lang.reflect.Method;
import java.net.URL;
import java.net.URLClassLoader;
import java.nio.file.Files;
import java.nio.file.Path;
import java.util.ArrayList;
import java.util.List;
import java.util.TreeSet;
import java.util.regex.Matcher;
import java.util.regex.Pattern;
import javax.tools.ToolProvider;

/** That README.md tells what is so: its code compiles and answers as written, its table has every call. */
final class ReadmeTest {
  private static final Check check = new Check("ReadmeTest");
  private static final Pattern BLOCK = Pattern.compile("```java\n(.*?)```", Pattern.DOTALL);
  private static final Pattern CALL = Pattern.compile("(x\\..*); *// (.*)");

  public static void main(String[] args) throws IOException, ReflectiveOperationException {
    String text = Files.readString(Path.of("README.md"));
    example(text);
    table(text);
    check.end();
  }

  /** The first block of code has the functions, the second one uses them, with answers behind the calls. */
  private static void example(String text) throws IOException, ReflectiveOperationException {
    Matcher block = BLOCK.matcher(text);
    check.due("a block of functions", block.find(), true);
    String functions = block.group(1);
    check.due("a block of calls", block.find(), true);
    StringBuilder body = new StringBuilder();
    List<String> calls = new ArrayList<>();
    List<String> want = new ArrayList<>();
    for (String line : block.group(1).split("\n")) {
      Matcher call = CALL.matcher(line);
      if (call.matches()) {
        calls.add(call.group(1));
        want.add(call.group(2));
        body.append("got.add(String.valueOf(").append(call.group(1)).append("));\n");
      } else {
        check.due("a call without its answer: " + line, line.startsWith("x."), false);
        body.append(line).append('\n');
      }
    }
    List<String> got = run("public class Readme {\n" + functions
        + "public static void run(java.util.List<String> got) {\n" + body + "}\n}\n");
    check.due("answers", got.size(), calls.size());
    for (int i = 0; i < got.size(); i++) {
      check.due(calls.get(i), got.get(i), want.get(i));
    }
  }

  private static List<String> run(String source) throws IOException, ReflectiveOperationException {
    List<String> got = new ArrayList<>();
    Path dir = Files.createTempDirectory("readme");
    Path file = dir.resolve("Readme.java");
    Files.writeString(file, source);
    int failed = ToolProvider.getSystemJavaCompiler().run(null, null, null, "-cp", System.getProperty("java.class.path"),
        "-d", dir.toString(), file.toString());
    check.due("the code of README.md compiles", failed, 0);
    if (failed == 0) {
      try (URLClassLoader loader = new URLClassLoader(new URL[] {dir.toUri().toURL()})) {
        loader.loadClass("Readme").getMethod("run", List.class).invoke(null, got);
      }
    }
    Files.deleteIfExists(dir.resolve("Readme.class"));
    Files.delete(file);
    Files.delete(dir);
    return got;
  }

  private static void table(String text) {
    TreeSet<String> listed = new TreeSet<>();
    for (String line : text.split("\n")) {
      Matcher name = Pattern.compile("`(\\w+)`").matcher(line.startsWith("| `") ? line.split("\\|")[1] : "");
      while (name.find()) {
        check.due("listed twice: " + name.group(1), !listed.add(name.group(1)), false);
      }
    }
    TreeSet<String> face = new TreeSet<>();
    for (Method m : PardonLamps.class.getMethods()) {
      if (m.getDeclaringClass() == PardonLamps.class) {
        face.add(m.getName());
      }
    }
    check.due("the calls that are listed", listed.toString(), face.toString());
  }
}
