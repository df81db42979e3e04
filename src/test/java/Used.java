import java.nio.charset.StandardCharsets;

/** A CutStore in use: tells its latest call, keeps to the calls that are promised, and lays out FILES. */
final class Used {
  static final int[] NO_FILES = {-1, 8, 256, Integer.MIN_VALUE, Integer.MAX_VALUE};
  static final int[] NO_RULES = {-1, 6, 256, Integer.MIN_VALUE, Integer.MAX_VALUE};
  private static final int MOST_CALLS = 512;

  private final CutStore store = new CutStore();
  private int calls = 0;

  int callsLeft() {
    return MOST_CALLS - calls;
  }

  private CutStore call(String name, int... numbers) {
    calls++;
    Due.calling(name, numbers);
    if (calls > MOST_CALLS) {
      Due.fault("the test itself is wrong: nothing is promised for call " + calls + " of an object");
    }
    return store;
  }

  int feed(int a, int b, int c, int d, int e) {
    return call("feed", a, b, c, d, e).feed(a, b, c, d, e);
  }

  boolean end(int n) {
    return call("end", n).end(n);
  }

  int edit(int f, int place, int gone) {
    return call("edit", f, place, gone).edit(f, place, gone);
  }

  int sow(int f, int n, int seed, int spread) {
    return call("sow", f, n, seed, spread).sow(f, n, seed, spread);
  }

  int copy(int from, int to) {
    return call("copy", from, to).copy(from, to);
  }

  int at(int f, int i) {
    return call("at", f, i).at(f, i);
  }

  boolean fixed(int r, int size) {
    return call("fixed", r, size).fixed(r, size);
  }

  boolean rolling(int r, boolean two, int least, int most, int window, int bits, int mark) {
    return call(two ? "rolling, two, " : "rolling", r, least, most, window, bits, mark)
        .rolling(r, two, least, most, window, bits, mark);
  }

  boolean told(int r, int least, int most, int mark) {
    return call("told", r, least, most, mark).told(r, least, most, mark);
  }

  int sum(int r, int f, int i) {
    return call("sum", r, f, i).sum(r, f, i);
  }

  int cuts(int r, int f) {
    return call("cuts", r, f).cuts(r, f);
  }

  int cut(int r, int f, int k) {
    return call("cut", r, f, k).cut(r, f, k);
  }

  int agree(int r, int f, int g) {
    return call("agree", r, f, g).agree(r, f, g);
  }

  int sent(int r, int f, int g) {
    return call("sent", r, f, g).sent(r, f, g);
  }

  int cost(int r, int files) {
    return call("cost", r, files).cost(r, files);
  }

  int best(int files) {
    return call("best", files).best(files);
  }

  int keep(int r, int f) {
    return call("keep", r, f).keep(r, f);
  }

  int drop(int f) {
    return call("drop", f).drop(f);
  }

  int bring(int f) {
    return call("bring", f).bring(f);
  }

  int jumps(int f) {
    return call("jumps", f).jumps(f);
  }

  int number(int f, int k) {
    return call("number", f, k).number(f, k);
  }

  int piece(int p, int what) {
    return call("piece", p, what).piece(p, what);
  }

  int count(int what) {
    return call("count", what).count(what);
  }

  boolean prices(int entry, int pointer) {
    return call("prices", entry, pointer).prices(entry, pointer);
  }

  int supers() {
    return call("supers").supers();
  }

  int pair(int k, int what) {
    return call("pair", k, what).pair(k, what);
  }

  /** The tape has these characters alone, as many as it can take. */
  void tape(String text) {
    byte[] bytes = text.getBytes(StandardCharsets.ISO_8859_1);
    end(0);
    for (int i = 0; i < bytes.length; i += 20) {
      feed(word(bytes, i), word(bytes, i + 4), word(bytes, i + 8), word(bytes, i + 12), word(bytes, i + 16));
    }
    end(bytes.length);
  }

  /** FILE f has these characters alone. */
  void file(int f, String text) {
    end(0);
    edit(f, 0, edit(f, 0, 0));
    for (int from = 0; from < text.length(); from += 400) {
      int to = Math.min(text.length(), from + 400);
      tape(text.substring(from, to));
      Due.same(edit(f, from, 0), to);
    }
  }

  /** FILE f has as many bytes as a FILE can have. */
  void fullFile(int f) {
    file(f, "");
    for (int n = 200; n <= 600; n += 200) {
      Due.same(sow(f, 200, n + f, 256), n);
    }
  }

  /** All FILES are full of one character, and KEPT by RULE 0, which cuts behind each. */
  void keepAllFullOf(String character) {
    fixed(0, 1);
    file(0, character.repeat(600));
    keep(0, 0);
    for (int f = 1; f < 8; f++) {
      Due.same(copy(0, f), 600);
      keep(0, f);
    }
  }

  /** FILE f has n pairs of bytes, no two of them alike: the high and the low byte of the numbers from one on. */
  void words(int f, int from, int n) {
    StringBuilder text = new StringBuilder();
    for (int i = from; i < from + n; i++) {
      text.append((char) (i >> 8)).append((char) (i & 255));
    }
    file(f, text.toString());
  }

  /** FILE f has bytes of these SIGNS (0 .. 15) by a window of 1. */
  void signs(int f, int... signs) {
    StringBuilder text = new StringBuilder();
    for (int sign : signs) {
      text.append((char) (sign * 16));
    }
    file(f, text.toString());
  }

  void dueText(int f, String want) {
    StringBuilder got = new StringBuilder();
    for (int i = 0; i <= want.length(); i++) {
      int b = at(f, i);
      if (b != CutStore.NONE) {
        got.append((char) b);
      }
    }
    Due.calling("the text of FILE", f);
    Due.text(got.toString(), want);
  }

  /** Where the pieces of FILE f begin by RULE r, and its length at last. */
  void dueCuts(int r, int f, int... want) {
    Due.same(cuts(r, f), want.length - 1);
    for (int k = 0; k < want.length; k++) {
      Due.same(cut(r, f, k), want[k]);
    }
  }

  /** What is KEPT of FILE f, and no more. */
  void dueNumbers(int f, int... want) {
    for (int k = 0; k < want.length; k++) {
      Due.same(number(f, k), want[k]);
    }
    Due.same(number(f, want.length), -1);
  }

  /** PIECES, bytes of all, numbers KEPT, and FILES of which something is KEPT. */
  void dueStore(int pieces, int bytes, int numbers, int files) {
    Due.same(count(0), pieces);
    Due.same(count(1), bytes);
    Due.same(count(2), numbers);
    Due.same(count(5), files);
  }

  /** First number, second number and count of each new number, and no more. */
  void duePairs(int... want) {
    for (int i = 0; i < want.length; i++) {
      Due.same(pair(i / 3, i % 3), want[i]);
    }
    Due.same(pair(want.length / 3, 0), -1);
  }

  private static int word(byte[] bytes, int from) {
    int word = 0;
    for (int i = from; i < from + 4; i++) {
      word = word << 8 | (i < bytes.length ? bytes[i] & 255 : 0);
    }
    return word;
  }
}
