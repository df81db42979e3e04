import java.io.IOException;
import java.lang.reflect.Constructor;
import java.lang.reflect.Field;
import java.lang.reflect.InvocationTargetException;
import java.lang.reflect.Method;
import java.lang.reflect.Modifier;
import java.nio.file.Files;
import java.nio.file.Path;
import java.util.ArrayList;
import java.util.List;
import java.util.Random;

/** The rules of LANGUAGE.md on calls that never throw, and on sizes. */
public final class LanguageTest {
  private static final int[] EXTREMES = {Integer.MIN_VALUE, Integer.MIN_VALUE + 1, -2, -1, 0, 1, 2, 8, 16, 200, 255, 256,
    300, 301, 600, 601, 1001, Integer.MAX_VALUE - 1, Integer.MAX_VALUE};

  public static void main(String[] args) throws IllegalAccessException {
    Due.run(LanguageTest.class);
  }

  @Sentence("LANGUAGE 7: No call may ever throw or fail to end, for any arguments in any state (extremes alone)")
  static void extremes() throws IllegalAccessException {
    Random random = new Random(1);
    for (Method m : face()) {
      CutStore x = new CutStore();
      for (int i = 0; i < 400; i++) {
        call(x, m, random, 1);
      }
      Due.yes(true);
    }
  }

  @Sentence("LANGUAGE 7: No call may ever throw or fail to end, for any arguments in any state (after the 512th call too)")
  static void anyState() throws IllegalAccessException {
    List<Method> face = face();
    for (int seed = 0; seed < 5; seed++) {
      Random random = new Random(seed);
      CutStore x = new CutStore();
      for (int i = 0; i < 20_000; i++) {
        call(x, face.get(random.nextInt(face.size())), random, 12);
      }
      Due.yes(true);
    }
  }

  private static List<Method> face() {
    List<Method> face = new ArrayList<>();
    for (Method m : CutStore.class.getDeclaredMethods()) {
      if (Modifier.isPublic(m.getModifiers())) {
        face.add(m);
      }
    }
    // The machine tells methods in no order of its own, and drawn calls must be the same each time.
    face.sort((a, b) -> a.getName().compareTo(b.getName()));
    return face;
  }

  /** A call with drawn numbers, one of so many an extreme. */
  private static void call(CutStore x, Method m, Random random, int oneOf) throws IllegalAccessException {
    int[] numbers = new int[m.getParameterCount()];
    Object[] arguments = new Object[numbers.length];
    for (int i = 0; i < numbers.length; i++) {
      boolean extreme = random.nextInt(oneOf) == 0;
      numbers[i] = extreme ? EXTREMES[random.nextInt(EXTREMES.length)] : random.nextInt(6);
      arguments[i] = m.getParameterTypes()[i] == int.class ? (Object) numbers[i] : (Object) (numbers[i] % 2 == 0);
    }
    Due.calling(m.getName(), numbers);
    try {
      m.invoke(x, arguments);
    } catch (InvocationTargetException e) {
      Due.threw(e.getCause());
    }
  }

  @Sentence("LANGUAGE 11: A method takes at most seven parameters .. twelve classes .. twenty fields")
  static void sizes() {
    List<Class<?>> classes = new ArrayList<>(List.of(CutStore.class.getDeclaredClasses()));
    classes.add(CutStore.class);
    Due.calling("the classes of CutStore");
    Due.yes(classes.size() <= 12);
    for (Class<?> c : classes) {
      for (Method m : c.getDeclaredMethods()) {
        Due.calling("the method " + m.getName());
        Due.yes(m.getParameterCount() <= 7);
      }
      for (Constructor<?> made : c.getDeclaredConstructors()) {
        Due.calling("the constructor of " + c.getName());
        Due.yes(made.getParameterCount() <= 7);
      }
      Due.calling("the fields of " + c.getName());
      Due.yes(instanceFields(c).size() <= 20);
    }
  }

  @Sentence("LANGUAGE 11: Methods stay short (some sixty lines)")
  static void shortMethods() throws IOException {
    String outer = "    ";
    String depth = outer;
    int begun = 0;
    int line = 0;
    for (String text : Files.readAllLines(Path.of("src/main/java/CutStore.java"))) {
      line++;
      if (text.matches(outer + "private static final class .*")) {
        depth = outer + outer;
      } else if (begun == 0 && text.matches(depth + "[^ ].*\\) \\{")) {
        begun = line;
        Due.calling(text.trim());
      } else if (begun > 0 && text.equals(depth + "}")) {
        Due.yes(line - begun < 60);
        begun = 0;
      } else if (text.equals(outer + "}")) {
        depth = outer;
      }
    }
  }

  static List<Field> instanceFields(Class<?> c) {
    List<Field> fields = new ArrayList<>();
    for (Field f : c.getDeclaredFields()) {
      if (!Modifier.isStatic(f.getModifiers())) {
        fields.add(f);
      }
    }
    return fields;
  }
}
