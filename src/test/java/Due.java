import java.nio.charset.StandardCharsets;

/** Holds answers against those that are due, and helps tests to lay out FILES. */
final class Due {
  private static int asked = 0;
  private static int wrong = 0;

  private Due() {
  }

  static void same(String call, long got, long want) {
    asked++;
    if (got != want) {
      wrong++;
      System.out.println(call + " answered " + got + ", due is " + want);
    }
  }

  static void yes(String call, boolean got) {
    same(call, got ? 1 : 0, 1);
  }

  static void no(String call, boolean got) {
    same(call, got ? 1 : 0, 0);
  }

  /** Ends the test: with exit code 1 if an answer was wrong. */
  static void close() {
    System.out.println(asked + " answers asked, " + wrong + " wrong");
    if (wrong != 0 || asked == 0) {
      System.exit(1);
    }
  }

  /** A new FILE f of these bytes, by feed, end and edit. */
  static void file(CutStore x, int f, byte[] bytes) {
    int length = 0;
    while (x.at(f, length) != CutStore.NONE) {
      length++;
    }
    x.end(0);
    x.edit(f, 0, length);
    for (int from = 0; from < bytes.length; from += 400) {
      int n = Math.min(400, bytes.length - from);
      for (int i = 0; i < n; i += 20) {
        x.feed(word(bytes, from + i), word(bytes, from + i + 4), word(bytes, from + i + 8),
            word(bytes, from + i + 12), word(bytes, from + i + 16));
      }
      x.end(n);
      same("edit of a test's file", x.edit(f, from, 0), from + n);
    }
  }

  static void file(CutStore x, int f, String text) {
    file(x, f, text.getBytes(StandardCharsets.ISO_8859_1));
  }

  /** The bytes of FILE f, as text. */
  static String text(CutStore x, int f) {
    StringBuilder text = new StringBuilder();
    for (int i = 0; x.at(f, i) != CutStore.NONE; i++) {
      text.append((char) x.at(f, i));
    }
    return text.toString();
  }

  static void text(String call, CutStore x, int f, String want) {
    String got = text(x, f);
    if (!got.equals(want)) {
      System.out.println(call + ": the file is '" + got + "', due is '" + want + "'");
    }
    same(call + ": the file is as due", got.equals(want) ? 1 : 0, 1);
  }

  /** Where the pieces begin, and the length at last. */
  static void begins(String call, CutStore x, int r, int f, int... want) {
    same(call + ": cuts", x.cuts(r, f), want.length - 1);
    for (int k = 0; k < want.length; k++) {
      same(call + ": cut " + k, x.cut(r, f, k), want[k]);
    }
    same(call + ": cut behind the last", x.cut(r, f, want.length), -1);
    same(call + ": cut ahead of the first", x.cut(r, f, -1), -1);
  }

  /** What is KEPT of FILE f. */
  static void numbers(String call, CutStore x, int f, int... want) {
    for (int k = 0; k < want.length; k++) {
      same(call + ": number " + k, x.number(f, k), want[k]);
    }
    same(call + ": number behind the last", x.number(f, want.length), -1);
    same(call + ": number ahead of the first", x.number(f, -1), -1);
  }

  private static int word(byte[] bytes, int from) {
    int word = 0;
    for (int i = from; i < from + 4; i++) {
      word = word << 8 | (i < bytes.length ? bytes[i] & 255 : 0);
    }
    return word;
  }
}
