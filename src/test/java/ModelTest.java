import java.util.Random;

/** Runs of 512 calls, drawn from fixed seeds: the class answers as the Model does. */
public final class ModelTest {
  private static final int RUNS = 600;
  private static final int[] EDGES = {-1, 0, 1, 2, 3, 5, 6, 7, 8, 9, 15, 16, 17, 100, 101, 199, 200, 201, 255, 256, 257,
    300, 301, 399, 400, 401, 599, 600, 601, 1001, Integer.MAX_VALUE, Integer.MIN_VALUE};

  private final Random random;
  private final Used x = new Used();
  private final Model m = new Model();
  // Few kinds of bytes make many pieces alike, many kinds fill THE STORE.
  private final int spread;
  private final int most;
  private final int oddOneIn;

  private ModelTest(long seed) {
    random = new Random(seed);
    spread = new int[] {1, 2, 3, 8, 64, 256}[random.nextInt(6)];
    most = new int[] {2, 4, 12, 40, 200}[random.nextInt(5)];
    oddOneIn = random.nextInt(4) == 0 ? 4 : 50;
  }

  public static void main(String[] args) throws IllegalAccessException {
    Due.run(ModelTest.class);
  }

  @Sentence("All promises: drawn calls, ordinary ones and edges")
  static void drawnRuns() {
    for (int run = 0; run < RUNS; run++) {
      ModelTest test = new ModelTest(run);
      while (test.x.callsLeft() > 0) {
        test.oneCall();
      }
    }
  }

  private void oneCall() {
    if (random.nextInt(100) < 55) {
      change();
    } else {
      ask();
    }
  }

  private void change() {
    int f = file();
    int r = rule();
    switch (random.nextInt(14)) {
      case 0: case 1: {
        int[] n = {word(), word(), word(), word(), word()};
        Due.same(x.feed(n[0], n[1], n[2], n[3], n[4]), m.feed(n[0], n[1], n[2], n[3], n[4]));
        break;
      }
      case 2: {
        int n = odd(random.nextInt(60));
        same(x.end(n), m.end(n));
        break;
      }
      case 3: case 4: {
        int place = odd(random.nextInt(random.nextBoolean() ? 30 : 400));
        int gone = odd(random.nextInt(random.nextBoolean() ? 4 : 100));
        Due.same(x.edit(f, place, gone), m.edit(f, place, gone));
        break;
      }
      case 5: case 6: {
        int n = odd(1 + random.nextInt(200));
        int seed = random.nextInt(4) == 0 ? 7 : random.nextInt();
        int kinds = odd(spread);
        Due.same(x.sow(f, n, seed, kinds), m.sow(f, n, seed, kinds));
        break;
      }
      case 7: {
        int to = file();
        Due.same(x.copy(f, to), m.copy(f, to));
        break;
      }
      case 8: case 9:
        setRule(r);
        break;
      case 10: case 11: case 12:
        Due.same(x.keep(r, f), m.keep(r, f));
        break;
      default:
        letGo(f);
    }
  }

  private void setRule(int r) {
    int least = odd(1 + random.nextInt(most));
    int upTo = odd(Math.min(200, Math.max(least, 1 + random.nextInt(most))));
    int mark = odd(random.nextInt(random.nextBoolean() ? spread : 256));
    switch (random.nextInt(4)) {
      case 0:
        same(x.fixed(r, least), m.fixed(r, least));
        break;
      case 1:
        same(x.told(r, least, upTo, mark), m.told(r, least, upTo, mark));
        break;
      default: {
        boolean two = random.nextBoolean();
        int window = odd(1 + random.nextInt(16));
        int bits = odd(random.nextInt(random.nextBoolean() ? 4 : 9));
        same(x.rolling(r, two, least, upTo, window, bits, mark), m.rolling(r, two, least, upTo, window, bits, mark));
      }
    }
  }

  private void letGo(int f) {
    switch (random.nextInt(4)) {
      case 0: {
        int entry = odd(random.nextInt(101));
        int pointer = odd(random.nextInt(101));
        same(x.prices(entry, pointer), m.prices(entry, pointer));
        break;
      }
      case 1:
        Due.same(x.drop(f), m.drop(f));
        break;
      default:
        Due.same(x.bring(f), m.bring(f));
    }
  }

  private void ask() {
    int f = file();
    int r = rule();
    int k = odd(random.nextInt(random.nextBoolean() ? 20 : 600));
    int what = odd(random.nextInt(6));
    switch (random.nextInt(14)) {
      case 0: Due.same(x.at(f, k), m.at(f, k)); break;
      case 1: Due.same(x.sum(r, f, k), m.sum(r, f, k)); break;
      case 2: Due.same(x.cuts(r, f), m.cuts(r, f)); break;
      case 3: Due.same(x.cut(r, f, k), m.cut(r, f, k)); break;
      case 4: {
        int g = file();
        Due.same(x.agree(r, f, g), m.agree(r, f, g));
        break;
      }
      case 5: {
        int g = file();
        Due.same(x.sent(r, f, g), m.sent(r, f, g));
        break;
      }
      case 6: {
        int files = random.nextInt();
        Due.same(x.cost(r, files), m.cost(r, files));
        break;
      }
      case 7: {
        int files = random.nextInt();
        Due.same(x.best(files), m.best(files));
        break;
      }
      case 8: Due.same(x.jumps(f), m.jumps(f)); break;
      case 9: Due.same(x.number(f, k), m.number(f, k)); break;
      case 10: Due.same(x.piece(k, what % 3), m.piece(k, what % 3)); break;
      case 11: Due.same(x.count(what), m.count(what)); break;
      case 12: askSupers(); break;
      default: Due.same(x.pair(k, what % 3), m.pair(k, what % 3));
    }
  }

  /** SUPERS, and some of the new numbers: the first ones, those around the last one, and drawn ones. */
  private void askSupers() {
    if (random.nextInt(4) != 0 || x.callsLeft() < 20) {
      return;
    }
    Due.same(x.supers(), m.supers());
    int made = 0;
    while (m.pair(made, 0) != -1) {
      made++;
    }
    int drawn = random.nextInt(made + 1);
    for (int k : new int[] {0, 1, drawn, made - 1, made, 200}) {
      for (int part = 0; part < 3; part++) {
        Due.same(x.pair(k, part), m.pair(k, part));
      }
    }
  }

  private int file() {
    return odd(random.nextInt(8));
  }

  private int rule() {
    return odd(random.nextInt(6));
  }

  private int word() {
    int word = 0;
    for (int i = 0; i < 4; i++) {
      word = word << 8 | random.nextInt(spread);
    }
    return word;
  }

  /** Now and then an edge in the ordinary number's place. */
  private int odd(int ordinary) {
    return random.nextInt(oddOneIn) == 0 ? EDGES[random.nextInt(EDGES.length)] : ordinary;
  }

  private static void same(boolean got, boolean want) {
    Due.same(got ? 1 : 0, want ? 1 : 0);
  }
}
