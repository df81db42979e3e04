import java.lang.reflect.InvocationTargetException;
import java.lang.reflect.Method;
import java.util.Arrays;

/** Runs the tests of a class, and holds answers against those that are due. */
final class Due {
  private static final long MOST_MILLIS = 300_000;

  private static int asked = 0;
  private static int wrong = 0;
  private static String sentence = "";
  private static String callName = "";
  private static int[] callNumbers = {};

  private Due() {
  }

  /** Runs every test that names a sentence; ends with exit code 1 if an answer was wrong. */
  static void run(Class<?> tests) throws IllegalAccessException {
    watch();
    int count = 0;
    for (Method test : tests.getDeclaredMethods()) {
      if (test.isAnnotationPresent(Sentence.class)) {
        runOne(test);
        count++;
      }
    }
    close(count);
  }

  private static void runOne(Method test) throws IllegalAccessException {
    sentence = test.getName() + " [" + test.getAnnotation(Sentence.class).value() + "]";
    int askedBefore = asked;
    try {
      test.invoke(null);
    } catch (InvocationTargetException e) {
      threw(e.getCause());
    }
    if (asked == askedBefore) {
      fault("nothing was asked");
    }
  }

  /** A call that does not end must not hold up the tests for ever. */
  private static void watch() {
    Thread watcher = new Thread(() -> {
      try {
        Thread.sleep(MOST_MILLIS);
      } catch (InterruptedException e) {
        return;
      }
      System.out.println(sentence + ": " + call() + " does not end");
      Runtime.getRuntime().halt(1);
    });
    watcher.setDaemon(true);
    watcher.start();
  }

  private static void close(int tests) {
    System.out.println(tests + " tests, " + asked + " answers asked, " + wrong + " wrong");
    if (wrong != 0 || asked == 0) {
      System.exit(1);
    }
  }

  /** The call whose answer comes next. */
  static void calling(String name, int... numbers) {
    callName = name;
    callNumbers = numbers;
  }

  private static String call() {
    String numbers = Arrays.toString(callNumbers);
    return callName + "(" + numbers.substring(1, numbers.length() - 1) + ")";
  }

  static void same(long got, long want) {
    asked++;
    if (got != want) {
      fault(call() + " answered " + got + ", due is " + want);
    }
  }

  static void yes(boolean got) {
    same(got ? 1 : 0, 1);
  }

  static void no(boolean got) {
    same(got ? 1 : 0, 0);
  }

  static void text(String got, String want) {
    asked++;
    if (!got.equals(want)) {
      fault(call() + " gives '" + got + "', due is '" + want + "'");
    }
  }

  static void threw(Throwable thrown) {
    fault(call() + " threw " + thrown);
  }

  static void fault(String what) {
    wrong++;
    System.out.println(sentence + ": " + what);
  }
}
