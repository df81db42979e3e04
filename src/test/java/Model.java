import java.util.ArrayList;
import java.util.HashSet;
import java.util.LinkedHashMap;
import java.util.List;
import java.util.Map;
import java.util.Set;
import java.util.TreeMap;

/** The document once more, in its plainest form: texts for bytes, no thought of room or time. */
final class Model {
  private final String[] files = {"", "", "", "", "", "", "", ""};
  private final int[][] rules = new int[6][];
  private final TreeMap<Integer, String> store = new TreeMap<>();
  private final List<List<Integer>> kept = new ArrayList<>();
  private final List<int[]> pairs = new ArrayList<>();
  private String tape = "";
  private int entry = 8;
  private int pointer = 2;
  private int meetings = 0;

  Model() {
    for (int f = 0; f < 8; f++) {
      kept.add(null);
    }
  }

  int feed(int a, int b, int c, int d, int e) {
    if (tape.length() > 380) {
      return -1;
    }
    for (int n : new int[] {a, b, c, d, e}) {
      tape += "" + (char) (n >>> 24) + (char) (n >>> 16 & 255) + (char) (n >>> 8 & 255) + (char) (n & 255);
    }
    return tape.length();
  }

  boolean end(int n) {
    if (n < 0 || n > tape.length()) {
      return false;
    }
    tape = tape.substring(0, n);
    return true;
  }

  int edit(int f, int place, int gone) {
    if (f < 0 || f > 7 || place < 0 || place > files[f].length() || gone < 0 || (long) place + gone > files[f].length()) {
      return -1;
    }
    String text = files[f].substring(0, place) + tape + files[f].substring(place + gone);
    if (text.length() > 600) {
      return -2;
    }
    files[f] = text;
    tape = "";
    return text.length();
  }

  int sow(int f, int n, int seed, int spread) {
    if (f < 0 || f > 7 || n < 1 || n > 200 || spread < 1 || spread > 256 || files[f].length() + n > 600) {
      return -1;
    }
    int g = seed;
    for (int i = 0; i < n; i++) {
      g = 1103515245 * g + 12345;
      files[f] += (char) ((g >>> 8) % spread);
    }
    return files[f].length();
  }

  int copy(int from, int to) {
    if (from < 0 || from > 7 || to < 0 || to > 7) {
      return -1;
    }
    files[to] = files[from];
    return files[to].length();
  }

  int at(int f, int i) {
    return f < 0 || f > 7 || i < 0 || i >= files[f].length() ? -1 : files[f].charAt(i);
  }

  boolean fixed(int r, int size) {
    return rule(r, 0, size, size, 1, 0, 0);
  }

  boolean rolling(int r, boolean two, int least, int most, int window, int bits, int mark) {
    return rule(r, two ? 2 : 1, least, most, window, bits, mark);
  }

  boolean told(int r, int least, int most, int mark) {
    return rule(r, 3, least, most, 1, 0, mark);
  }

  private boolean rule(int r, int kind, int least, int most, int window, int bits, int mark) {
    if (r < 0 || r > 5 || least < 1 || most > 200 || least > most || window < 1 || window > 16 || bits < 0 || bits > 8
        || mark < 0 || mark > 255) {
      return false;
    }
    rules[r] = new int[] {kind, least, most, window, bits, mark};
    return true;
  }

  int sum(int r, int f, int i) {
    if (at(f, i) < 0 || r < 0 || r > 5 || rules[r] == null || rules[r][0] == 0 || rules[r][0] == 3) {
      return -1;
    }
    return plainSum(rules[r][3], files[f], i);
  }

  private static int plainSum(int window, String text, int i) {
    long sum = 0;
    long times = 1;
    for (int j = i; j >= 0 && j > i - window; j--) {
      sum = (sum + (text.charAt(j) + 1) * times) % 65536;
      times = times * 31 % 65536;
    }
    return (int) sum;
  }

  /** The pieces of a text, one by one; null when there is no such RULE or FILE. */
  private List<String> pieces(int r, int f) {
    if (r < 0 || r > 5 || rules[r] == null || f < 0 || f > 7) {
      return null;
    }
    List<String> pieces = new ArrayList<>();
    String text = files[f];
    int begin = 0;
    while (begin < text.length()) {
      int end = begin + size(rules[r], text, begin);
      pieces.add(text.substring(begin, end));
      begin = end;
    }
    return pieces;
  }

  private static int size(int[] rule, String text, int begin) {
    int spare = 0;
    for (int n = 1; begin + n <= text.length(); n++) {
      int last = begin + n - 1;
      if (rule[0] != 0 && n >= rule[1]) {
        int sign = plainSum(rule[3], text, last) / 16;
        int all = 1 << rule[4];
        int less = 1 << Math.max(0, rule[4] - 1);
        if (rule[0] == 3 ? text.charAt(last) == rule[5] : sign % all == rule[5] % all) {
          return n;
        }
        if (rule[0] == 2 && sign % less == rule[5] % less) {
          spare = n;
        }
      }
      if (n == rule[2]) {
        return spare > 0 ? spare : n;
      }
    }
    return text.length() - begin;
  }

  int cuts(int r, int f) {
    List<String> pieces = pieces(r, f);
    return pieces == null ? -1 : pieces.size();
  }

  int cut(int r, int f, int k) {
    List<String> pieces = pieces(r, f);
    if (pieces == null || k < 0 || k > pieces.size()) {
      return -1;
    }
    return String.join("", pieces.subList(0, k)).length();
  }

  int agree(int r, int f, int g) {
    List<String> one = pieces(r, f);
    List<String> two = pieces(r, g);
    if (one == null || two == null) {
      return -1;
    }
    int same = 0;
    while (same < one.size() && same < two.size()
        && one.get(one.size() - 1 - same).equals(two.get(two.size() - 1 - same))) {
      same++;
    }
    return same;
  }

  int sent(int r, int f, int g) {
    List<String> one = pieces(r, f);
    List<String> two = pieces(r, g);
    if (one == null || two == null) {
      return -1;
    }
    Set<String> fresh = new HashSet<>(two);
    fresh.removeAll(new HashSet<>(one));
    return String.join("", fresh).length();
  }

  int cost(int r, int which) {
    if (r < 0 || r > 5 || rules[r] == null) {
      return -1;
    }
    List<String> all = new ArrayList<>();
    for (int f = 0; f < 8; f++) {
      if ((which & 1 << f) != 0) {
        all.addAll(pieces(r, f));
      }
    }
    Set<String> once = new HashSet<>(all);
    return String.join("", once).length() + entry * once.size() + pointer * all.size();
  }

  int best(int which) {
    int best = -1;
    for (int r = 5; r >= 0; r--) {
      if (rules[r] != null && (best < 0 || cost(r, which) <= cost(best, which))) {
        best = r;
      }
    }
    return best;
  }

  private static int print(String piece) {
    int print = 0;
    for (int i = 0; i < piece.length(); i++) {
      print = (print + piece.charAt(i) * (i + 1)) % 256;
    }
    return print;
  }

  int keep(int r, int f) {
    List<String> pieces = pieces(r, f);
    if (pieces == null) {
      return -1;
    }
    TreeMap<Integer, String> now = new TreeMap<>(store);
    List<Integer> row = new ArrayList<>();
    int met = meetings;
    for (String piece : pieces) {
      int found = 0;
      for (Map.Entry<Integer, String> there : now.entrySet()) {
        if (there.getValue().equals(piece)) {
          found = there.getKey();
          break;
        }
        if (there.getValue().length() == piece.length() && print(there.getValue()) == print(piece)) {
          met++;
        }
      }
      if (found == 0) {
        found = 1;
        while (now.containsKey(found)) {
          found++;
        }
        now.put(found, piece);
      }
      row.add(found);
    }
    if (now.size() > 300) {
      return -2;
    }
    int fresh = now.size() - store.size();
    store.putAll(now);
    meetings = met;
    kept.set(f, row);
    sweep();
    return fresh;
  }

  private int holds(int p) {
    int holds = 0;
    for (List<Integer> row : kept) {
      if (row != null) {
        for (int n : row) {
          holds += n == p ? 1 : 0;
        }
      }
    }
    return holds;
  }

  private int sweep() {
    int before = store.size();
    store.keySet().removeIf(p -> holds(p) == 0);
    return before - store.size();
  }

  private List<Integer> row(int f) {
    return f < 0 || f > 7 ? null : kept.get(f);
  }

  int drop(int f) {
    if (row(f) == null) {
      return -1;
    }
    kept.set(f, null);
    return sweep();
  }

  int bring(int f) {
    if (row(f) == null) {
      return -1;
    }
    files[f] = "";
    for (int p : row(f)) {
      files[f] += store.get(p);
    }
    return files[f].length();
  }

  int jumps(int f) {
    if (row(f) == null) {
      return -1;
    }
    int jumps = 0;
    int ahead = -1;
    for (int p : row(f)) {
      jumps += p == ahead + 1 ? 0 : 1;
      ahead = p;
    }
    return jumps;
  }

  int number(int f, int k) {
    return row(f) == null || k < 0 || k >= row(f).size() ? -1 : row(f).get(k);
  }

  int piece(int p, int what) {
    String piece = store.get(p);
    if (piece == null || what < 0 || what > 2) {
      return -1;
    }
    return what == 0 ? piece.length() : what == 1 ? holds(p) : print(piece);
  }

  int count(int what) {
    int bytes = String.join("", store.values()).length();
    int numbers = 0;
    int rows = 0;
    for (List<Integer> row : kept) {
      numbers += row == null ? 0 : row.size();
      rows += row == null ? 0 : 1;
    }
    int[] all = {store.size(), bytes, numbers, bytes + entry * store.size() + pointer * numbers, meetings, rows};
    return what < 0 || what > 5 ? -1 : all[what];
  }

  boolean prices(int newEntry, int newPointer) {
    if (newEntry < 0 || newEntry > 100 || newPointer < 0 || newPointer > 100) {
      return false;
    }
    entry = newEntry;
    pointer = newPointer;
    return true;
  }

  int supers() {
    pairs.clear();
    List<List<Integer>> rows = new ArrayList<>();
    for (List<Integer> row : kept) {
      if (row != null) {
        rows.add(new ArrayList<>(row));
      }
    }
    while (pairs.size() < 200) {
      int[] most = most(rows);
      if (most == null) {
        break;
      }
      int took = 0;
      for (List<Integer> row : rows) {
        for (int i = 0; i + 1 < row.size(); i++) {
          if (row.get(i) == most[0] && row.get(i + 1) == most[1]) {
            row.set(i, 1001 + pairs.size());
            row.remove(i + 1);
            took++;
          }
        }
      }
      pairs.add(new int[] {most[0], most[1], took});
    }
    int left = 2 * pairs.size();
    for (List<Integer> row : rows) {
      left += row.size();
    }
    return left;
  }

  /** The pair that is there most often, twice at least; null if none is. */
  private static int[] most(List<List<Integer>> rows) {
    Map<Long, Integer> counts = new LinkedHashMap<>();
    for (List<Integer> row : rows) {
      Map<Long, Integer> free = new LinkedHashMap<>();
      for (int i = 0; i + 1 < row.size(); i++) {
        long pair = row.get(i) * 10000L + row.get(i + 1);
        if (free.getOrDefault(pair, 0) <= i) {
          counts.merge(pair, 1, Integer::sum);
          free.put(pair, i + 2);
        }
      }
    }
    long best = -1;
    for (Map.Entry<Long, Integer> e : counts.entrySet()) {
      int there = best < 0 ? 1 : counts.get(best);
      if (e.getValue() > there || best >= 0 && e.getValue() == there && e.getKey() < best) {
        best = e.getKey();
      }
    }
    return best < 0 ? null : new int[] {(int) (best / 10000), (int) (best % 10000)};
  }

  int pair(int k, int what) {
    return k < 0 || k >= pairs.size() || what < 0 || what > 2 ? -1 : pairs.get(k)[what];
  }
}
