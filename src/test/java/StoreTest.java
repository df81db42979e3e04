/** Promises 18 to 25: THE STORE. */
public final class StoreTest {
  private static final int MIN = Integer.MIN_VALUE;
  private static final int MAX = Integer.MAX_VALUE;

  public static void main(String[] args) {
    keep();
    keepAnew();
    freeNumbers();
    meetings();
    tooMany();
    tooManyAheadOfWhatGoes();
    keepRefused();
    drop();
    bring();
    jumps();
    number();
    piece();
    count();
    prices();
    Due.close();
  }

  private static void keep() {
    CutStore x = new CutStore();
    x.fixed(0, 2);
    x.fixed(1, 3);
    Due.file(x, 0, "ababcda");
    Due.same("keep", x.keep(0, 0), 3);
    Due.numbers("keep", x, 0, 1, 1, 2, 3);
    Due.file(x, 1, "cdabef");
    Due.same("shared with another file", x.keep(0, 1), 1);
    Due.numbers("shared", x, 1, 2, 1, 4);
    store(x, "two files", 4, 7, 7, 2);
    Due.same("HOLDS of 1", x.piece(1, 1), 3);
    Due.file(x, 0, "other");
    Due.numbers("what is KEPT stays", x, 0, 1, 1, 2, 3);
    Due.same("an empty file", x.keep(0, 2), 0);
    Due.numbers("an empty file", x, 2);
    store(x, "three files", 4, 7, 7, 3);
    Due.file(x, 3, "abXabY");
    Due.same("by another rule", x.keep(1, 3), 2);
    Due.numbers("no piece is like a longer one", x, 3, 5, 6);
  }

  private static void keepAnew() {
    CutStore x = new CutStore();
    x.fixed(0, 1);
    Due.file(x, 0, "abc");
    x.keep(0, 0);
    Due.same("the same once more", x.keep(0, 0), 0);
    store(x, "the same once more", 3, 3, 3, 1);
    Due.same("HOLDS", x.piece(1, 1), 1);
    Due.file(x, 0, "cde");
    Due.same("what was KEPT goes when the new one is there", x.keep(0, 0), 2);
    Due.numbers("new numbers behind", x, 0, 3, 4, 5);
    Due.same("1 went", x.piece(1, 0), -1);
    Due.same("2 went", x.piece(2, 0), -1);
    Due.same("3 stays", x.piece(3, 1), 1);
    store(x, "anew", 3, 3, 3, 1);
    Due.file(x, 0, "");
    Due.same("an empty one", x.keep(0, 0), 0);
    store(x, "an empty one", 0, 0, 0, 1);
    Due.same("it is KEPT all the same", x.bring(0), 0);
  }

  private static void freeNumbers() {
    CutStore x = new CutStore();
    x.fixed(0, 1);
    Due.file(x, 0, "abc");
    Due.file(x, 1, "de");
    Due.file(x, 2, "fghij");
    x.keep(0, 0);
    x.keep(0, 1);
    Due.same("all of file 0 go", x.drop(0), 3);
    Due.same("five new", x.keep(0, 2), 5);
    Due.numbers("the least that are free", x, 2, 1, 2, 3, 6, 7);
    Due.text("file 2", x, 2, "fghij");
    x.bring(1);
    Due.text("bytes stay with their numbers", x, 1, "de");
    x.drop(1);
    x.keep(0, 0);
    Due.numbers("between the others", x, 0, 4, 5, 8);
  }

  private static void meetings() {
    CutStore x = new CutStore();
    x.fixed(0, 2);
    // ab, ca and e` have the PRINT 37: 97 + 196, 99 + 194, 101 + 192.
    Due.file(x, 0, "abcae`");
    Due.same("three though sums meet", x.keep(0, 0), 3);
    Due.same("0 + 1 + 2 MEETINGS", x.count(4), 3);
    Due.same("prints", x.piece(1, 2) * 10000 + x.piece(2, 2) * 100 + x.piece(3, 2), 373737);
    Due.file(x, 1, "e`");
    x.keep(0, 1);
    Due.same("two ahead of the one alike", x.count(4), 5);
    Due.file(x, 1, "ab");
    x.keep(0, 1);
    Due.same("the first one is alike", x.count(4), 5);
    Due.file(x, 2, "`b");
    x.keep(0, 2);
    Due.same("another PRINT", x.count(4), 5);
    x.drop(0);
    Due.same("drop has none", x.count(4), 5);
    Due.file(x, 3, "ca");
    x.keep(0, 3);
    Due.same("those that went are not there", x.count(4), 6);
    x.fixed(1, 3);
    Due.file(x, 4, "%\u0000\u0000");
    x.keep(1, 4);
    Due.same("the same PRINT, but more bytes", x.piece(x.number(4, 0), 2), 37);
    Due.same("more bytes are no MEETING", x.count(4), 6);
  }

  private static void tooMany() {
    CutStore x = new CutStore();
    x.fixed(0, 2);
    pieces(x, 0, 0, 150);
    pieces(x, 1, 1000, 150);
    Due.same("150", x.keep(0, 0), 150);
    Due.same("300", x.keep(0, 1), 150);
    Due.same("300 are there", x.count(0), 300);
    pieces(x, 2, 0, 150);
    Due.same("shared ones still come", x.keep(0, 2), 0);
    x.drop(2);
    int met = x.count(4);
    pieces(x, 2, 100, 51);
    Due.same("the 301st", x.keep(0, 2), -2);
    store(x, "nothing is done", 300, 600, 300, 2);
    Due.same("no MEETINGS come", x.count(4), met);
    Due.same("no HOLDS come", x.piece(101, 1), 1);
    Due.same("nothing is KEPT", x.number(2, 0), -1);
    Due.same("drop(0)", x.drop(0), 150);
    Due.same("now there is room", x.keep(0, 2), 51);
    Due.same("the least number", x.number(2, 0), 1);
    x.bring(1);
    Due.same("file 1 is as it was", x.at(1, 0) * 256 + x.at(1, 1), 1000);
    Due.same("file 1 is as it was", x.at(1, 298) * 256 + x.at(1, 299), 1149);
  }

  private static void tooManyAheadOfWhatGoes() {
    CutStore x = new CutStore();
    x.fixed(0, 2);
    pieces(x, 0, 0, 200);
    x.keep(0, 0);
    pieces(x, 0, 1000, 101);
    Due.same("301 ahead of what goes", x.keep(0, 0), -2);
    store(x, "nothing is done", 200, 400, 200, 1);
    Due.same("it stays KEPT", x.bring(0), 400);
    Due.same("as it was", x.at(0, 398) * 256 + x.at(0, 399), 199);
    pieces(x, 0, 1000, 100);
    Due.same("300 ahead of what goes", x.keep(0, 0), 100);
    store(x, "then they go", 100, 200, 100, 1);
    Due.same("behind those that went", x.number(0, 0), 201);
    Due.same("to the last", x.number(0, 99), 300);
  }

  private static void keepRefused() {
    CutStore x = new CutStore();
    x.fixed(1, 2);
    Due.file(x, 0, "abc");
    x.keep(1, 0);
    for (int r : new int[] {-1, 0, 6, MIN, MAX}) {
      Due.same("keep(" + r + ", 0)", x.keep(r, 0), -1);
    }
    for (int f : new int[] {-1, 8, MIN, MAX}) {
      Due.same("keep(1, " + f + ")", x.keep(1, f), -1);
      Due.same("drop(" + f + ")", x.drop(f), -1);
      Due.same("bring(" + f + ")", x.bring(f), -1);
      Due.same("jumps(" + f + ")", x.jumps(f), -1);
      Due.same("number(" + f + ", 0)", x.number(f, 0), -1);
    }
    store(x, "nothing was done", 2, 3, 2, 1);
  }

  private static void drop() {
    CutStore x = new CutStore();
    x.fixed(0, 1);
    Due.file(x, 0, "aabc");
    Due.file(x, 1, "cd");
    x.keep(0, 0);
    x.keep(0, 1);
    Due.same("the shared one stays", x.drop(0), 2);
    store(x, "drop", 2, 2, 2, 1);
    Due.same("HOLDS of the shared one", x.piece(3, 1), 1);
    Due.same("once more", x.drop(0), -1);
    Due.text("the file stays", x, 0, "aabc");
    Due.same("the last", x.drop(1), 2);
    store(x, "all gone", 0, 0, 0, 0);
    x.keep(0, 5);
    Due.same("an empty one that was KEPT", x.drop(5), 0);
    Due.same("no more", x.drop(5), -1);
  }

  private static void bring() {
    CutStore x = new CutStore();
    x.told(0, 1, 200, ',');
    Due.file(x, 6, "a,\u00ff\u0000,a,b");
    x.keep(0, 6);
    Due.file(x, 6, "something else, and longer");
    Due.same("bring", x.bring(6), 8);
    Due.text("bring", x, 6, "a,\u00ff\u0000,a,b");
    Due.same("once more", x.bring(6), 8);
    x.drop(6);
    Due.same("nothing is KEPT", x.bring(6), -1);
    Due.text("the file stays", x, 6, "a,\u00ff\u0000,a,b");
    x.keep(0, 5);
    Due.file(x, 5, "zzz");
    Due.same("an empty one", x.bring(5), 0);
    Due.text("an empty one", x, 5, "");
    x.sow(1, 200, 3, 256);
    x.sow(1, 200, 4, 256);
    x.sow(1, 200, 5, 256);
    x.copy(1, 2);
    x.fixed(1, 7);
    x.keep(1, 1);
    x.edit(1, 0, 600);
    Due.same("a full one", x.bring(1), 600);
    Due.yes("a full one", Due.text(x, 1).equals(Due.text(x, 2)));
    Due.same("THE STORE stays", x.count(2), 86);
  }

  private static void jumps() {
    CutStore x = new CutStore();
    x.fixed(0, 1);
    Due.file(x, 0, "abcd");
    x.keep(0, 0);
    Due.same("1 2 3 4", x.jumps(0), 1);
    Due.file(x, 1, "bcd");
    x.keep(0, 1);
    Due.same("2 3 4: the first one counts", x.jumps(1), 1);
    Due.file(x, 1, "aabcbadc");
    x.keep(0, 1);
    Due.same("1 1 2 3 2 1 4 3", x.jumps(1), 6);
    x.keep(0, 2);
    Due.same("an empty one", x.jumps(2), 0);
    Due.same("nothing is KEPT", x.jumps(3), -1);
    x.drop(1);
    Due.same("dropped", x.jumps(1), -1);
  }

  private static void number() {
    CutStore x = new CutStore();
    x.fixed(0, 1);
    Due.file(x, 0, "aba");
    x.keep(0, 0);
    Due.numbers("number", x, 0, 1, 2, 1);
    for (int k : new int[] {3, -1, 600, MIN, MAX}) {
      Due.same("number(0, " + k + ")", x.number(0, k), -1);
    }
    Due.file(x, 0, "a");
    x.keep(0, 0);
    Due.numbers("a shorter row", x, 0, 1);
    x.drop(0);
    Due.numbers("dropped", x, 0);
  }

  private static void piece() {
    CutStore x = new CutStore();
    x.fixed(0, 3);
    Due.file(x, 0, "abcabc\u00ff\u00fe");
    x.keep(0, 0);
    Due.same("bytes", x.piece(1, 0), 3);
    Due.same("HOLDS", x.piece(1, 1), 2);
    Due.same("PRINT", x.piece(1, 2), (97 + 2 * 98 + 3 * 99) % 256);
    Due.same("bytes of the last", x.piece(2, 0), 2);
    Due.same("HOLDS of the last", x.piece(2, 1), 1);
    Due.same("PRINT of the last", x.piece(2, 2), (255 + 2 * 254) % 256);
    for (int what : new int[] {-1, 3, MIN, MAX}) {
      Due.same("piece(1, " + what + ")", x.piece(1, what), -1);
    }
    for (int p : new int[] {0, -1, 3, 300, 301, 1001, MIN, MAX}) {
      Due.same("piece(" + p + ", 0)", x.piece(p, 0), -1);
    }
    x.drop(0);
    for (int what = 0; what < 3; what++) {
      Due.same("one that went", x.piece(1, what), -1);
    }
    x.sow(1, 200, 99, 256);
    x.fixed(1, 200);
    x.keep(1, 1);
    int print = 0;
    for (int i = 0; i < 200; i++) {
      print = (print + x.at(1, i) * (i + 1)) % 256;
    }
    Due.same("PRINT of 200 bytes", x.piece(1, 2), print);
  }

  private static void count() {
    CutStore x = new CutStore();
    x.fixed(0, 2);
    Due.file(x, 0, "ababc");
    Due.file(x, 7, "cab");
    x.keep(0, 0);
    x.keep(0, 7);
    Due.same("PIECES", x.count(0), 4);
    Due.same("bytes of all", x.count(1), 2 + 1 + 2 + 1);
    Due.same("numbers KEPT", x.count(2), 5);
    Due.same("ROOM", x.count(3), 6 + 4 * 8 + 5 * 2);
    Due.same("MEETINGS", x.count(4), 1);
    Due.same("FILES", x.count(5), 2);
    for (int what : new int[] {-1, 6, MIN, MAX}) {
      Due.same("count(" + what + ")", x.count(what), -1);
    }
  }

  private static void prices() {
    CutStore x = new CutStore();
    x.fixed(0, 2);
    Due.file(x, 0, "ababc");
    x.keep(0, 0);
    Due.same("8 and 2 at first", x.count(3), 3 + 2 * 8 + 3 * 2);
    int[][] wrong = {{-1, 5}, {101, 5}, {5, -1}, {5, 101}, {MIN, 5}, {5, MAX}, {MAX, MIN}};
    for (int[] w : wrong) {
      Due.no("prices(" + w[0] + ", " + w[1] + ")", x.prices(w[0], w[1]));
      Due.same("they stay", x.count(3), 25);
    }
    Due.yes("prices(100, 0)", x.prices(100, 0));
    Due.same("ENTRY 100", x.count(3), 203);
    Due.yes("prices(0, 100)", x.prices(0, 100));
    Due.same("POINTER 100", x.count(3), 303);
    Due.same("COST too", x.cost(0, 1), 303);
  }

  private static void store(CutStore x, String call, int pieces, int bytes, int numbers, int files) {
    Due.same(call + ": PIECES", x.count(0), pieces);
    Due.same(call + ": bytes", x.count(1), bytes);
    Due.same(call + ": numbers", x.count(2), numbers);
    Due.same(call + ": FILES", x.count(5), files);
  }

  /** A FILE of n pieces of two bytes, no two alike, by numbers from one on. */
  private static void pieces(CutStore x, int f, int from, int n) {
    byte[] bytes = new byte[2 * n];
    for (int i = 0; i < n; i++) {
      bytes[2 * i] = (byte) (from + i >> 8);
      bytes[2 * i + 1] = (byte) (from + i);
    }
    Due.file(x, f, bytes);
  }
}
