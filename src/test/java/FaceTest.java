import java.io.IOException;
import java.lang.reflect.Constructor;
import java.lang.reflect.Field;
import java.lang.reflect.Method;
import java.lang.reflect.Modifier;
import java.nio.file.Files;
import java.nio.file.Path;
import java.util.Arrays;
import java.util.Set;
import java.util.TreeSet;
import java.util.stream.Collectors;

/** The public face, and the rules of LANGUAGE.md that can be told from the class and its text. */
public final class FaceTest {
  private static final String[] FACE = {
    "int feed(int, int, int, int, int)", "boolean end(int)", "int edit(int, int, int)", "int sow(int, int, int, int)",
    "int copy(int, int)", "int at(int, int)", "boolean fixed(int, int)",
    "boolean rolling(int, boolean, int, int, int, int, int)", "boolean told(int, int, int, int)",
    "int sum(int, int, int)", "int cuts(int, int)", "int cut(int, int, int)", "int agree(int, int, int)",
    "int sent(int, int, int)", "int cost(int, int)", "int best(int)", "int keep(int, int)", "int drop(int)",
    "int bring(int)", "int jumps(int)", "int number(int, int)", "int piece(int, int)", "int count(int)",
    "boolean prices(int, int)", "int supers()", "int pair(int, int)"};
  private static final Set<String> IMPORTS = Set.of("java.util.Arrays", "java.util.ArrayList", "java.util.List",
      "java.util.Iterator");

  public static void main(String[] args) throws IllegalAccessException {
    Due.run(FaceTest.class);
  }

  @Sentence("LANGUAGE 1: The face: the class of the document, public and final")
  static void members() {
    Due.calling("the face of CutStore");
    int modifiers = CutStore.class.getModifiers();
    Due.yes(Modifier.isPublic(modifiers) && Modifier.isFinal(modifiers));
    Set<String> open = new TreeSet<>();
    for (Method m : CutStore.class.getDeclaredMethods()) {
      if (!Modifier.isPrivate(m.getModifiers())) {
        open.add(signature(m));
        Due.yes(Modifier.isPublic(m.getModifiers()) && !Modifier.isStatic(m.getModifiers()));
      }
    }
    Due.yes(open.equals(new TreeSet<>(Arrays.asList(FACE))));
    for (Constructor<?> c : CutStore.class.getDeclaredConstructors()) {
      Due.yes(Modifier.isPublic(c.getModifiers()) && c.getParameterCount() == 0);
    }
    for (Field f : CutStore.class.getDeclaredFields()) {
      Due.calling("the field " + f.getName());
      Due.yes(Modifier.isPrivate(f.getModifiers()) || f.getName().equals("NONE"));
    }
  }

  @Sentence("LANGUAGE 1: No private method bears the name of a public one.")
  static void names() {
    Set<String> open = Arrays.stream(FACE).map(s -> s.replaceAll("^\\w+ |\\(.*", "")).collect(Collectors.toSet());
    for (Method m : CutStore.class.getDeclaredMethods()) {
      Due.calling("the method " + m.getName());
      Due.no(Modifier.isPrivate(m.getModifiers()) && open.contains(m.getName()));
      Due.no(m.getName().startsWith("lambda$"));
    }
  }

  @Sentence("LANGUAGE 1, 2, 5: classes inside are static, not public; no static state")
  static void insideClasses() {
    for (Class<?> c : CutStore.class.getDeclaredClasses()) {
      Due.calling("the class " + c.getName());
      int modifiers = c.getModifiers();
      Due.yes(Modifier.isStatic(modifiers) && !Modifier.isPublic(modifiers) && !Modifier.isProtected(modifiers));
      for (Field f : c.getDeclaredFields()) {
        Due.yes(!Modifier.isStatic(f.getModifiers()) || Modifier.isFinal(f.getModifiers()));
      }
    }
    for (Field f : CutStore.class.getDeclaredFields()) {
      Due.calling("the field " + f.getName());
      Due.yes(!Modifier.isStatic(f.getModifiers()) || Modifier.isFinal(f.getModifiers()));
    }
  }

  @Sentence("LANGUAGE 2, 6, 13: no throw, try, catch, ..; no lambda; no library but what is listed")
  static void words() throws IOException {
    String text = Files.readString(Path.of("src/main/java/CutStore.java"));
    String code = text.replaceAll("(?s)/\\*.*?\\*/", " ").replaceAll("//[^\n]*", " ");
    for (String word : new String[] {"throw", "throws", "try", "catch", "synchronized", "assert", "package"}) {
      Due.calling("the word " + word);
      Due.no(code.matches("(?s).*\\b" + word + "\\b.*"));
    }
    Due.calling("Exact, ::");
    Due.no(code.contains("Exact(") || code.contains("::"));
    for (String line : code.split("\n")) {
      if (line.startsWith("import ")) {
        Due.calling(line);
        Due.yes(IMPORTS.contains(line.replaceAll("^import |;\\s*$", "")));
      }
    }
  }

  private static String signature(Method m) {
    String types = Arrays.stream(m.getParameterTypes()).map(Class::getName).collect(Collectors.joining(", "));
    return m.getReturnType().getName() + " " + m.getName() + "(" + types + ")";
  }
}
