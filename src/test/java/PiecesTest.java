/** Terms II and promises 23 to 25: the PIECES of THE STORE, what is counted, and prices. */
public final class PiecesTest {
  private static final int MIN = Integer.MIN_VALUE;
  private static final int MAX = Integer.MAX_VALUE;

  public static void main(String[] args) throws IllegalAccessException {
    Due.run(PiecesTest.class);
  }

  @Sentence("Terms II: THE STORE has PIECES, numbered from 1 on as they came")
  static void numberedAsTheyCame() {
    Used x = new Used();
    x.fixed(0, 1);
    x.file(7, "zab");
    x.file(0, "ay");
    x.keep(0, 7);
    x.keep(0, 0);
    x.dueNumbers(7, 1, 2, 3);
    x.dueNumbers(0, 2, 4);
  }

  @Sentence("Terms II: one that comes anew is shared with one that is there and has the same bytes")
  static void shared() {
    Used x = new Used();
    x.fixed(0, 2);
    x.told(1, 1, 3, 'b');
    x.file(0, "ababab");
    x.file(1, "xyab");
    x.file(2, "ab");
    Due.same(x.keep(0, 0), 1);
    Due.same(x.keep(0, 1), 1);
    Due.same(x.keep(1, 2), 0);
    x.dueNumbers(0, 1, 1, 1);
    x.dueNumbers(1, 2, 1);
    x.dueNumbers(2, 1);
  }

  @Sentence("Terms II: else it is a new one (of other bytes, or of more of them)")
  static void notShared() {
    Used x = new Used();
    x.told(0, 1, 200, ',');
    x.file(0, "ab,abc,ab,a,b,\u0000,\u0000\u0000,");
    Due.same(x.keep(0, 0), 6);
    x.dueNumbers(0, 1, 2, 1, 3, 4, 5, 6);
    x.file(1, "ab");
    Due.same(x.keep(0, 1), 1);
    x.dueNumbers(1, 7);
  }

  @Sentence("Terms II: (300 at most at a time; the least number that is free)")
  static void theLeastFree() {
    Used x = new Used();
    x.fixed(0, 1);
    x.file(0, "abc");
    x.file(1, "de");
    x.file(2, "fghij");
    x.keep(0, 0);
    x.keep(0, 1);
    x.drop(0);
    Due.same(x.keep(0, 2), 5);
    x.dueNumbers(2, 1, 2, 3, 6, 7);
    x.drop(1);
    x.keep(0, 0);
    x.dueNumbers(0, 4, 5, 8);
  }

  @Sentence("Terms II: 300 at most at a time")
  static void threeHundredAtATime() {
    Used x = new Used();
    x.fixed(0, 2);
    for (int from = 0; from < 1800; from += 300) {
      x.words(0, from, 300);
      Due.same(x.keep(0, 0), 300);
      Due.same(x.number(0, 299), 300);
      Due.same(x.keep(0, 0), 0);
      Due.same(x.drop(0), 300);
    }
  }

  @Sentence("Terms II: Its PRINT: the sum of its bytes, each times its place (from 1 on)")
  static void print() {
    Used x = new Used();
    x.fixed(0, 3);
    x.file(0, "\u0001\u0002\u0003\u0005\u0000\u0000\u0000\u0000\u0007\u0009");
    x.keep(0, 0);
    Due.same(x.piece(1, 2), 1 + 4 + 9);
    Due.same(x.piece(2, 2), 5);
    Due.same(x.piece(3, 2), 21);
    Due.same(x.piece(4, 2), 9);
  }

  @Sentence("Terms II: modulo 256. A PIECE that comes")
  static void printModulo() {
    Used x = new Used();
    x.fixed(0, 2);
    // 255; 256; 257; 255 + 510 = 765
    x.file(0, "\u00ff\u0000\u0000\u0080\u0001\u0080\u00ff\u00ff");
    x.keep(0, 0);
    Due.same(x.piece(1, 2), 255);
    Due.same(x.piece(2, 2), 0);
    Due.same(x.piece(3, 2), 1);
    Due.same(x.piece(4, 2), 765 - 512);
    x.fixed(1, 200);
    x.file(1, "\u00ff".repeat(200));
    x.keep(1, 1);
    // 255 * 200 * 201 / 2 = 5125500
    Due.same(x.piece(5, 2), 5125500 % 256);
  }

  @Sentence("Terms II: MEETINGS: how often one was not.")
  static void meetings() {
    Used x = new Used();
    x.fixed(0, 2);
    // ab, ca and e` have the PRINT 37: 97 + 196, 99 + 194, 101 + 192.
    x.file(0, "abcae`");
    Due.same(x.keep(0, 0), 3);
    Due.same(x.piece(1, 2), 37);
    Due.same(x.piece(2, 2), 37);
    Due.same(x.piece(3, 2), 37);
    Due.same(x.count(4), 0 + 1 + 2);
    x.file(1, "ca");
    Due.same(x.keep(0, 1), 0);
    x.dueNumbers(1, 2);
    Due.same(x.count(4), 3 + 1);
  }

  @Sentence("Terms II: by their numbers, until one is alike")
  static void meetingsByTheirNumbers() {
    Used x = new Used();
    x.fixed(0, 2);
    x.file(0, "xx");
    x.file(1, "abca");
    x.file(2, "e`");
    x.file(3, "e`");
    x.keep(0, 0);
    x.keep(0, 1);
    Due.same(x.count(4), 1);
    x.drop(0);
    x.keep(0, 2);
    x.dueNumbers(2, 1);
    Due.same(x.count(4), 3);
    // e` came last, but has the least number: none is met ahead of it.
    x.keep(0, 3);
    Due.same(x.count(4), 3);
    // ab has number 2: e` alone is met ahead of it.
    x.file(3, "ab");
    x.keep(0, 3);
    Due.same(x.count(4), 4);
  }

  @Sentence("Terms II: held against those that are there with the same PRINT and as many bytes")
  static void meetingsOfThoseThatAreThere() {
    Used x = new Used();
    x.fixed(0, 2);
    x.fixed(1, 3);
    x.fixed(2, 1);
    x.file(0, "ab");
    x.keep(0, 0);
    // The same PRINT by 3 bytes and by 1 byte, and 2 bytes of another PRINT.
    x.file(1, "%\u0000\u0000");
    x.file(2, "%");
    x.file(3, "ba");
    Due.same(x.keep(1, 1), 1);
    Due.same(x.keep(2, 2), 1);
    Due.same(x.keep(0, 3), 1);
    Due.same(x.piece(2, 2), 37);
    Due.same(x.piece(3, 2), 37);
    Due.same(x.count(4), 0);
    x.drop(0);
    x.file(4, "ca");
    Due.same(x.keep(0, 4), 1);
    Due.same(x.count(4), 0);
  }

  @Sentence("Terms II: those that are there (what was KEPT of the same FILE is there still)")
  static void meetingsWithWhatGoes() {
    Used x = new Used();
    x.fixed(0, 2);
    x.file(0, "ab");
    x.keep(0, 0);
    x.file(0, "ca");
    Due.same(x.keep(0, 0), 1);
    Due.same(x.count(4), 1);
    x.dueNumbers(0, 2);
    Due.same(x.keep(0, 0), 0);
    Due.same(x.count(4), 1);
  }

  @Sentence("Terms II: a PIECE has as many HOLDS as often as it stands in all that is KEPT")
  static void holds() {
    Used x = new Used();
    x.fixed(0, 1);
    x.file(0, "aab");
    x.file(7, "ba");
    x.keep(0, 0);
    x.keep(0, 7);
    Due.same(x.piece(1, 1), 3);
    Due.same(x.piece(2, 1), 2);
    x.keep(0, 0);
    Due.same(x.piece(1, 1), 3);
    x.file(0, "bbb");
    x.keep(0, 0);
    Due.same(x.piece(1, 1), 1);
    Due.same(x.piece(2, 1), 4);
    x.drop(7);
    Due.same(x.piece(2, 1), 3);
  }

  @Sentence("Terms II: HOLDS (as many as there can be)")
  static void holdsOfAllFiles() {
    Used x = new Used();
    x.keepAllFullOf("a");
    Due.same(x.piece(1, 1), 4800);
    x.dueStore(1, 1, 4800, 8);
    x.prices(100, 100);
    Due.same(x.count(3), 1 + 100 + 480000);
  }

  @Sentence("Terms II: and goes when it has none.")
  static void goes() {
    Used x = new Used();
    x.fixed(0, 1);
    x.file(0, "ab");
    x.file(1, "bc");
    x.keep(0, 0);
    x.keep(0, 1);
    x.drop(0);
    Due.same(x.piece(1, 1), -1);
    Due.same(x.piece(2, 1), 1);
    Due.same(x.piece(3, 1), 1);
    x.drop(1);
    for (int p = 1; p <= 3; p++) {
      for (int what = 0; what < 3; what++) {
        Due.same(x.piece(p, what), -1);
      }
    }
    x.dueStore(0, 0, 0, 0);
  }

  @Sentence("Promise 23: Of PIECE number p: 0 bytes, 1 HOLDS, 2 PRINT.")
  static void piece() {
    Used x = new Used();
    x.fixed(0, 3);
    x.file(0, "abcabc\u00ff\u00fe");
    x.keep(0, 0);
    Due.same(x.piece(1, 0), 3);
    Due.same(x.piece(1, 1), 2);
    Due.same(x.piece(1, 2), (97 + 2 * 98 + 3 * 99) % 256);
    Due.same(x.piece(2, 0), 2);
    Due.same(x.piece(2, 1), 1);
    Due.same(x.piece(2, 2), (255 + 2 * 254) % 256);
    x.fixed(0, 200);
    x.file(1, "q".repeat(200));
    x.keep(0, 1);
    Due.same(x.piece(3, 0), 200);
  }

  @Sentence("Promise 23: NONE when there is none such")
  static void pieceNoneSuch() {
    Used x = new Used();
    x.fixed(0, 1);
    x.file(0, "ab");
    x.keep(0, 0);
    for (int p : new int[] {0, -1, 3, 300, 301, 1001, MIN, MAX}) {
      for (int what = 0; what < 3; what++) {
        Due.same(x.piece(p, what), -1);
      }
    }
  }

  @Sentence("Promise 23: NONE when there is none such (with 300 PIECES too)")
  static void pieceBeyond300() {
    Used x = new Used();
    x.fixed(0, 2);
    x.words(0, 0, 300);
    x.keep(0, 0);
    Due.same(x.piece(1, 0), 2);
    Due.same(x.piece(300, 0), 2);
    Due.same(x.piece(300, 2), (1 + 2 * 43) % 256);
    Due.same(x.piece(0, 0), -1);
    Due.same(x.piece(301, 0), -1);
  }

  @Sentence("Promise 23: NONE when there is none such, or for others.")
  static void pieceOthers() {
    Used x = new Used();
    x.fixed(0, 1);
    x.file(0, "ab");
    x.keep(0, 0);
    for (int what : new int[] {-1, 3, 4, 256, MIN, MAX}) {
      Due.same(x.piece(1, what), -1);
      Due.same(x.piece(3, what), -1);
    }
  }

  @Sentence("Promise 24: Of THE STORE: 0 PIECES, 1 bytes of all, 2 numbers KEPT, 3 ROOM")
  static void count() {
    Used x = new Used();
    x.fixed(0, 2);
    x.file(0, "ababc");
    x.file(7, "cab");
    x.keep(0, 0);
    x.keep(0, 7);
    Due.same(x.count(0), 4);
    Due.same(x.count(1), 2 + 1 + 2 + 1);
    Due.same(x.count(2), 5);
    Due.same(x.count(3), 6 + 4 * 8 + 5 * 2);
  }

  @Sentence("Promise 24: 4 MEETINGS since the beginning")
  static void countMeetings() {
    Used x = new Used();
    x.fixed(0, 2);
    x.file(0, "abca");
    for (int n = 1; n <= 5; n++) {
      x.keep(0, 0);
      Due.same(x.count(4), n);
      x.drop(0);
      Due.same(x.count(4), n);
    }
    x.supers();
    x.cost(0, 1);
    x.sent(0, 1, 0);
    x.agree(0, 0, 0);
    x.best(1);
    x.bring(0);
    Due.same(x.count(4), 5);
  }

  @Sentence("Promise 24: 5 FILES of which something is KEPT")
  static void countFiles() {
    Used x = new Used();
    x.fixed(0, 2);
    for (int f = 0; f < 8; f++) {
      x.file(f, "ab".repeat(f));
      x.keep(0, f);
      Due.same(x.count(5), f + 1);
    }
    x.keep(0, 7);
    Due.same(x.count(5), 8);
    for (int f = 0; f < 8; f++) {
      x.drop(f);
      Due.same(x.count(5), 7 - f);
    }
  }

  @Sentence("Promise 24: NONE for others.")
  static void countOthers() {
    Used x = new Used();
    for (int what : new int[] {-1, 6, 7, 256, MIN, MAX}) {
      Due.same(x.count(what), -1);
    }
  }

  @Sentence("Terms II: ROOM of THE STORE: the bytes of all PIECES, ENTRY")
  static void room() {
    Used x = new Used();
    x.fixed(0, 3);
    Due.same(x.count(3), 0);
    x.file(0, "abcabcd");
    x.keep(0, 0);
    Due.same(x.count(3), 4 + 2 * 8 + 3 * 2);
    x.prices(1, 0);
    Due.same(x.count(3), 4 + 2);
    x.prices(0, 1);
    Due.same(x.count(3), 4 + 3);
    x.prices(0, 0);
    Due.same(x.count(3), 4);
    x.drop(0);
    x.prices(100, 100);
    Due.same(x.count(3), 0);
  }

  @Sentence("Terms II: ENTRY (0 .. 100; 8 at first)")
  static void entry() {
    Used x = new Used();
    x.fixed(0, 200);
    x.file(0, "a");
    x.keep(0, 0);
    Due.same(x.count(3), 1 + 8 + 2);
    Due.yes(x.prices(0, 2));
    Due.same(x.count(3), 1 + 2);
    Due.yes(x.prices(100, 2));
    Due.same(x.count(3), 1 + 100 + 2);
    Due.same(x.cost(0, 1), 1 + 100 + 2);
    for (int entry : new int[] {-1, 101, 256, MIN, MAX}) {
      Due.no(x.prices(entry, 5));
      Due.same(x.count(3), 1 + 100 + 2);
    }
  }

  @Sentence("Terms II: POINTER (0 .. 100; 2 at first)")
  static void pointer() {
    Used x = new Used();
    x.fixed(0, 200);
    x.file(0, "a");
    x.keep(0, 0);
    Due.same(x.cost(0, 1), 1 + 8 + 2);
    Due.yes(x.prices(8, 0));
    Due.same(x.count(3), 1 + 8);
    Due.yes(x.prices(8, 100));
    Due.same(x.count(3), 1 + 8 + 100);
    Due.same(x.cost(0, 1), 1 + 8 + 100);
    for (int pointer : new int[] {-1, 101, 256, MIN, MAX}) {
      Due.no(x.prices(5, pointer));
      Due.same(x.count(3), 1 + 8 + 100);
    }
  }

  @Sentence("Promise 25: ENTRY and POINTER: true; false when one can't be.")
  static void prices() {
    Used x = new Used();
    x.fixed(0, 200);
    x.file(0, "a");
    Due.yes(x.prices(0, 0));
    Due.same(x.cost(0, 1), 1);
    Due.yes(x.prices(100, 100));
    Due.same(x.cost(0, 1), 201);
    Due.no(x.prices(-1, -1));
    Due.no(x.prices(101, 101));
    Due.no(x.prices(MAX, MIN));
    Due.same(x.cost(0, 1), 201);
    Due.yes(x.prices(3, 4));
    Due.same(x.cost(0, 1), 8);
  }
}
