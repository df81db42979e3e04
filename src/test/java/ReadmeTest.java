import java.io.IOException;
import java.lang.reflect.Method;
import java.lang.reflect.Modifier;
import java.nio.file.Files;
import java.nio.file.Path;
import java.util.Set;
import java.util.TreeSet;
import java.util.regex.Matcher;
import java.util.regex.Pattern;

/** README.md says how to use the class: its example is run, answer by answer. */
public final class ReadmeTest {
  private static final Pattern CALL = Pattern.compile("store\\.(\\w+)\\((.*)\\);\\s*// (-?\\d+|true|false): .*");

  public static void main(String[] args) throws IllegalAccessException {
    Due.run(ReadmeTest.class);
  }

  @Sentence("The public face (README.md shows every call of it, each with the answer that comes)")
  static void example() throws IOException, ReflectiveOperationException {
    CutStore store = new CutStore();
    Set<String> shown = new TreeSet<>();
    for (String line : Files.readAllLines(Path.of("README.md"))) {
      Matcher call = CALL.matcher(line);
      if (call.matches()) {
        shown.add(call.group(1));
        Due.calling(line);
        Due.text(answer(store, call.group(1), call.group(2)), call.group(3));
      } else if (line.startsWith("store.")) {
        Due.fault("README.md has a call without an answer: " + line);
      }
    }
    Set<String> face = new TreeSet<>();
    for (Method m : CutStore.class.getDeclaredMethods()) {
      if (Modifier.isPublic(m.getModifiers())) {
        face.add(m.getName());
      }
    }
    Due.calling("the calls that README.md shows");
    Due.text(shown.toString(), face.toString());
  }

  private static String answer(CutStore store, String name, String list) throws ReflectiveOperationException {
    String[] texts = list.isEmpty() ? new String[0] : list.split(", ");
    for (Method m : CutStore.class.getDeclaredMethods()) {
      if (m.getName().equals(name) && m.getParameterCount() == texts.length) {
        Object[] arguments = new Object[texts.length];
        for (int i = 0; i < texts.length; i++) {
          arguments[i] = m.getParameterTypes()[i] == boolean.class
              ? (Object) Boolean.valueOf(texts[i]) : (Object) number(texts[i]);
        }
        return String.valueOf(m.invoke(store, arguments));
      }
    }
    return "no such call";
  }

  private static int number(String text) {
    if (text.startsWith("'")) {
      return text.charAt(1);
    }
    return text.startsWith("0b") ? Integer.parseInt(text.substring(2), 2) : Integer.decode(text);
  }
}
