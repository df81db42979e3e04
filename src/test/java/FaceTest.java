import java.lang.reflect.Constructor;
import java.lang.reflect.Field;
import java.lang.reflect.Method;
import java.lang.reflect.Modifier;
import java.nio.file.Files;
import java.nio.file.Path;
import java.util.Arrays;
import java.util.Set;
import java.util.TreeSet;
import java.util.stream.Collectors;

/** The public face, and the rules of LANGUAGE.md that can be told from the class and its text. */
public final class FaceTest {
  private static final String[] FACE = {
    "int feed(int, int, int, int, int)", "boolean end(int)", "int edit(int, int, int)", "int sow(int, int, int, int)",
    "int copy(int, int)", "int at(int, int)", "boolean fixed(int, int)",
    "boolean rolling(int, boolean, int, int, int, int, int)", "boolean told(int, int, int, int)",
    "int sum(int, int, int)", "int cuts(int, int)", "int cut(int, int, int)", "int agree(int, int, int)",
    "int sent(int, int, int)", "int cost(int, int)", "int best(int)", "int keep(int, int)", "int drop(int)",
    "int bring(int)", "int jumps(int)", "int number(int, int)", "int piece(int, int)", "int count(int)",
    "boolean prices(int, int)", "int supers()", "int pair(int, int)"};

  public static void main(String[] args) throws Exception {
    members();
    insideClasses();
    words();
    Due.close();
  }

  private static void members() {
    Due.yes("the class is public and final",
        Modifier.isPublic(CutStore.class.getModifiers()) && Modifier.isFinal(CutStore.class.getModifiers()));
    Set<String> open = new TreeSet<>();
    Set<String> names = new TreeSet<>();
    for (Method m : CutStore.class.getDeclaredMethods()) {
      if (!Modifier.isPrivate(m.getModifiers())) {
        open.add(signature(m));
        names.add(m.getName());
        Due.yes(m + " is public, not static", Modifier.isPublic(m.getModifiers()) && !Modifier.isStatic(m.getModifiers()));
      }
    }
    Due.yes("the methods are those of the document", open.equals(new TreeSet<>(Arrays.asList(FACE))));
    for (Method m : CutStore.class.getDeclaredMethods()) {
      Due.no(m + " bears the name of a public one", Modifier.isPrivate(m.getModifiers()) && names.contains(m.getName()));
    }
    for (Constructor<?> c : CutStore.class.getDeclaredConstructors()) {
      Due.yes("the constructor", Modifier.isPublic(c.getModifiers()) && c.getParameterCount() == 0);
    }
    for (Field f : CutStore.class.getDeclaredFields()) {
      Due.yes("field " + f.getName(), Modifier.isPrivate(f.getModifiers()) || f.getName().equals("NONE"));
    }
  }

  private static void insideClasses() {
    Class<?>[] inside = CutStore.class.getDeclaredClasses();
    Due.yes("at most twelve classes", inside.length < 12);
    for (Class<?> c : inside) {
      Due.yes(c + " is private and static", Modifier.isPrivate(c.getModifiers()) && Modifier.isStatic(c.getModifiers()));
      for (Field f : c.getDeclaredFields()) {
        Due.yes(f + " is no state of all", !Modifier.isStatic(f.getModifiers()) || Modifier.isFinal(f.getModifiers()));
      }
    }
  }

  private static void words() throws Exception {
    String text = Files.readString(Path.of("src/main/java/CutStore.java"));
    String code = text.replaceAll("(?s)/\\*.*?\\*/", " ").replaceAll("//[^\n]*", " ");
    for (String word : new String[] {"throw", "throws", "try", "catch", "synchronized", "assert", "package", "Exact", "->", "::"}) {
      boolean there = Character.isLetter(word.charAt(0))
          ? code.matches("(?s).*\\b" + word + "\\b.*") : code.contains(word);
      Due.no("the code has '" + word + "'", there);
    }
    for (String line : code.split("\n")) {
      Due.yes(line, !line.startsWith("import ") || line.equals("import java.util.Arrays;"));
    }
  }

  private static String signature(Method m) {
    String types = Arrays.stream(m.getParameterTypes()).map(Class::getName).collect(Collectors.joining(", "));
    return m.getReturnType().getName() + " " + m.getName() + "(" + types + ")";
  }
}
