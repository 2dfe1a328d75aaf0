import java.io.IOException;
import java.lang.reflect.Constructor;
import java.lang.reflect.Field;
import java.lang.reflect.Method;
import java.lang.reflect.Modifier;
import java.nio.file.Files;
import java.nio.file.Path;
import java.util.List;
import java.util.Set;
import java.util.TreeSet;
import java.util.regex.Matcher;
import java.util.regex.Pattern;

/** The face of the document, and what of LANGUAGE.md can be seen in the source and in the classes. */
final class LanguageTest {
  private static final Check check = new Check("LanguageTest");
  private static final Path SOURCE = Path.of("src/main/java/PardonLamps.java");
  private static final Set<String> FACE = Set.of(
      "int feed(long,long,long)", "int town()", "int year()", "int person(int,int)", "int wrong(int,int)", "int lamps()",
      "int dark(int,int,int)", "int harm()", "int say(int)", "int give(int,int)", "int ask(int)", "int night()",
      "boolean undo()", "int judged(int)", "int pay(int,int,int)", "int when(int,int)", "int grudges(int,boolean)",
      "int ripe(int)", "int price(int,int)", "int stays(int,int)", "int middle()", "int round(int,int,int)", "int circle()",
      "int need()", "int wind(int,int)", "boolean see(int,int,boolean)", "int sets(int)", "int look()", "int law(int,int)",
      "int rests(int,int,int)", "int years(int,int,int)", "boolean mark(int,boolean)", "int count(int)");

  public static void main(String[] args) throws IOException {
    face();
    inside();
    source(Files.readString(SOURCE));
    check.end();
  }

  private static void face() {
    Class<?> c = PardonLamps.class;
    check.due("public final", c.getModifiers() & (Modifier.PUBLIC | Modifier.FINAL), Modifier.PUBLIC | Modifier.FINAL);
    Set<String> found = new TreeSet<>();
    for (Method m : c.getDeclaredMethods()) {
      if (Modifier.isPrivate(m.getModifiers())) {
        continue;
      }
      due("public and of the object: " + m, Modifier.isPublic(m.getModifiers()) && !Modifier.isStatic(m.getModifiers()));
      found.add(sign(m));
      int declared = m.getName().equals("rests") ? 1 : 0;
      check.due("exceptions of " + m.getName(), m.getExceptionTypes().length, declared);
    }
    due("the face " + found, found.equals(FACE));
    for (Field f : c.getDeclaredFields()) {
      boolean constant = f.getName().equals("NONE");
      due("field " + f, constant ? Modifier.isPublic(f.getModifiers()) : Modifier.isPrivate(f.getModifiers()));
    }
    Constructor<?>[] made = c.getDeclaredConstructors();
    check.due("constructors", made.length, 1);
    check.due("its parameters", made[0].getParameterCount(), 0);
  }

  private static String sign(Method m) {
    StringBuilder b = new StringBuilder();
    for (Class<?> p : m.getParameterTypes()) {
      b.append(b.length() == 0 ? "" : ",").append(p.getName());
    }
    return m.getReturnType().getName() + " " + m.getName() + "(" + b + ")";
  }

  private static void inside() {
    Class<?>[] classes = PardonLamps.class.getDeclaredClasses();
    due("some twelve classes", classes.length <= 12);
    Set<String> names = new TreeSet<>();
    for (String s : FACE) {
      names.add(s.substring(s.indexOf(' ') + 1, s.indexOf('(')));
    }
    for (Class<?> c : classes) {
      due("private and static: " + c, Modifier.isPrivate(c.getModifiers()) && Modifier.isStatic(c.getModifiers()));
      int fields = 0;
      for (Field f : c.getDeclaredFields()) {
        if (Modifier.isStatic(f.getModifiers())) {
          due("final: " + f, Modifier.isFinal(f.getModifiers()));
        } else {
          fields++;
        }
      }
      due("some twenty fields: " + c, fields <= 20);
      for (Method m : c.getDeclaredMethods()) {
        due("no name of the face: " + m, !names.contains(m.getName()));
        due("seven parameters: " + m, m.getParameterCount() <= 7);
      }
    }
    for (Method m : PardonLamps.class.getDeclaredMethods()) {
      due("no name of the face: " + m, !Modifier.isPrivate(m.getModifiers()) || !names.contains(m.getName()));
    }
  }

  private static void source(String whole) {
    String text = whole.replaceAll("(?s)/\\*.*?\\*/", "").replaceAll("//[^\n]*", "").replaceAll("'[^'\n]'", "'x'")
        .replaceAll("\"[^\"\n]*\"", "\"\"");
    for (String word : List.of("catch", "finally", "synchronized", "assert", "->", "::", "Exact", "getMessage", "hashCode",
        "Random", "Thread", "System\\.(?!arraycopy)", "\\bvar\\b", "\\brecord\\b", "package\\b", "double", "float", "\" *\\+",
        "\\+ *\"", "while \\(true", "for \\(;;")) {
      due("none of " + word, !Pattern.compile(word).matcher(text).find());
    }
    Matcher thrown = Pattern.compile("throw new (\\w+)\\(").matcher(text);
    while (thrown.find()) {
      due("throws " + thrown.group(1), thrown.group(1).equals("NoSuchElementException"));
    }
    Matcher imported = Pattern.compile("import ([\\w.]+);").matcher(text);
    while (imported.find()) {
      due("imports " + imported.group(1), imported.group(1).equals("java.util.NoSuchElementException"));
    }
    for (int i = 0; i < whole.length(); i++) {
      if (whole.charAt(i) > 126) {
        due("a sign beyond 126 at " + i, false);
      }
    }
    lengths(text);
  }

  /** Methods by their indent: a line that ends in an open brace, up to the brace below it. */
  private static void lengths(String text) {
    String[] lines = text.split("\n");
    for (int i = 0; i < lines.length; i++) {
      Matcher head = Pattern.compile("^( {2}| {4})\\w.*\\) (throws \\w+ )?\\{$").matcher(lines[i]);
      if (head.find()) {
        int end = i;
        while (end < lines.length && !lines[end].equals(head.group(1) + "}")) {
          end++;
        }
        due("some sixty lines: " + lines[i].trim(), end - i < 60);
      }
      due("a line of 100: " + lines[i], lines[i].length() <= 100);
    }
  }

  private static void due(String what, boolean so) {
    check.due(what, so, true);
  }
}
