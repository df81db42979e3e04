/** Promises 14 to 17: FILES held against one another, and what RULES cost. */
public final class CompareTest {
  private static final int MIN = Integer.MIN_VALUE;
  private static final int MAX = Integer.MAX_VALUE;

  public static void main(String[] args) {
    agree();
    sent();
    wrongInputs();
    cost();
    costOfMany();
    best();
    Due.close();
  }

  private static void agree() {
    CutStore x = new CutStore();
    x.told(0, 1, 200, ',');
    x.fixed(1, 2);
    Due.file(x, 0, "aa,bb,cc,dd");
    Due.file(x, 1, "x,bb,cc,dd");
    Due.same("three at the end", x.agree(0, 0, 1), 3);
    Due.same("the other way round", x.agree(0, 1, 0), 3);
    Due.file(x, 2, "aa,bb,cc,d");
    Due.same("the last one differs", x.agree(0, 0, 2), 0);
    Due.file(x, 3, "aa,bX,cc,dd");
    Due.same("not beyond the first that differs", x.agree(0, 0, 3), 2);
    Due.file(x, 4, "cc,dd");
    Due.same("all of the shorter one", x.agree(0, 0, 4), 2);
    Due.same("with itself", x.agree(0, 0, 0), 4);
    Due.same("with an empty one", x.agree(0, 0, 7), 0);
    Due.same("two empty ones", x.agree(0, 6, 7), 0);
    Due.file(x, 5, "Xaa,bb,cc,dd");
    Due.same("FIXED, moved by one", x.agree(1, 0, 5), 0);
    Due.same("TOLD, moved by one", x.agree(0, 0, 5), 3);
    Due.file(x, 4, "d,cc,dd");
    Due.file(x, 5, "dd,cc,dd");
    Due.same("as long as the shorter piece is not enough", x.agree(0, 4, 5), 2);
  }

  private static void sent() {
    CutStore x = new CutStore();
    x.told(0, 1, 200, ',');
    Due.file(x, 0, "a,b,c,");
    Due.file(x, 1, "a,xx,b,xx,yyy,c");
    Due.same("each new one once", x.sent(0, 0, 1), 3 + 4 + 1);
    Due.same("the other way round", x.sent(0, 1, 0), 2);
    Due.same("to itself", x.sent(0, 1, 1), 0);
    Due.same("from an empty one", x.sent(0, 7, 1), 2 + 3 + 2 + 4 + 1);
    Due.same("to an empty one", x.sent(0, 1, 7), 0);
    x.fixed(1, 1);
    Due.file(x, 2, "abcabcabc");
    Due.file(x, 3, "cbdd");
    Due.same("single bytes", x.sent(1, 2, 3), 1);
    Due.same("single bytes back", x.sent(1, 3, 2), 1);
  }

  private static void wrongInputs() {
    CutStore x = new CutStore();
    x.fixed(2, 4);
    int[][] wrong = {{-1, 0, 0}, {0, 0, 0}, {6, 0, 0}, {MIN, 0, 0}, {MAX, 0, 0}, {2, -1, 0}, {2, 8, 0}, {2, MAX, 0},
        {2, 0, -1}, {2, 0, 8}, {2, 0, MIN}};
    for (int[] w : wrong) {
      Due.same("agree(" + w[0] + ", " + w[1] + ", " + w[2] + ")", x.agree(w[0], w[1], w[2]), -1);
      Due.same("sent(" + w[0] + ", " + w[1] + ", " + w[2] + ")", x.sent(w[0], w[1], w[2]), -1);
    }
    for (int r : new int[] {-1, 0, 6, MIN, MAX}) {
      Due.same("cost(" + r + ", 255)", x.cost(r, 255), -1);
    }
  }

  private static void cost() {
    CutStore x = new CutStore();
    x.fixed(0, 2);
    Due.file(x, 0, "ababcd");
    Due.file(x, 1, "cdefe");
    Due.file(x, 7, "ef");
    Due.same("no file", x.cost(0, 0), 0);
    Due.same("file 0", x.cost(0, 1), 4 + 2 * 8 + 3 * 2);
    Due.same("file 1", x.cost(0, 2), 5 + 3 * 8 + 3 * 2);
    Due.same("both", x.cost(0, 3), 7 + 4 * 8 + 6 * 2);
    Due.same("file 7", x.cost(0, 128), 2 + 8 + 2);
    Due.same("all", x.cost(0, 255), 7 + 4 * 8 + 7 * 2);
    Due.same("all, by -1", x.cost(0, -1), 7 + 4 * 8 + 7 * 2);
    Due.same("other bits are not looked at", x.cost(0, 256), 0);
    Due.same("other bits are not looked at", x.cost(0, MIN | 1), 26);
    Due.same("empty files", x.cost(0, 4 + 8 + 16), 0);
    x.keep(0, 0);
    Due.same("THE STORE does not matter", x.cost(0, 1), 26);
    Due.same("THE STORE stays", x.count(0), 2);
    x.cost(0, 255);
    Due.same("no MEETINGS come", x.count(4), 0);
    x.prices(100, 0);
    Due.same("ENTRY 100", x.cost(0, 1), 4 + 200);
    x.prices(0, 100);
    Due.same("POINTER 100", x.cost(0, 1), 4 + 300);
    Due.file(x, 0, "zz");
    Due.same("as they are", x.cost(0, 1), 2 + 100);
  }

  /** More pieces than THE STORE could hold: what the ROOM would be is told all the same. */
  private static void costOfMany() {
    CutStore x = new CutStore();
    for (int f = 0; f < 8; f++) {
      byte[] bytes = new byte[600];
      for (int i = 0; i < 300; i++) {
        int value = f * 300 + i;
        bytes[2 * i] = (byte) (value >> 8);
        bytes[2 * i + 1] = (byte) value;
      }
      Due.file(x, f, bytes);
    }
    x.fixed(0, 2);
    Due.same("2400 pieces, no two alike", x.cost(0, 255), 4800 + 2400 * 8 + 2400 * 2);
    Due.same("600 pieces", x.cost(0, 3), 1200 + 600 * 8 + 600 * 2);
    x.fixed(1, 1);
    Due.same("4800 numbers", x.cost(1, 255), 256 + 256 * 8 + 4800 * 2);
    x.fixed(2, 200);
    Due.same("24 pieces", x.cost(2, 255), 4800 + 24 * 8 + 24 * 2);
    Due.same("best", x.best(255), 2);
  }

  private static void best() {
    CutStore x = new CutStore();
    Due.same("without rules", x.best(255), -1);
    Due.file(x, 0, "aaaaaaaa");
    x.fixed(5, 8);
    Due.same("just one", x.best(1), 5);
    x.fixed(3, 4);
    Due.same("costs 18 and 16", x.cost(5, 1) * 100 + x.cost(3, 1), 1816);
    Due.same("the least", x.best(1), 3);
    x.fixed(4, 4);
    Due.same("of several the least number", x.best(1), 3);
    x.fixed(1, 4);
    Due.same("of several the least number", x.best(1), 1);
    Due.same("for no files all cost 0", x.best(0), 1);
    x.prices(8, 100);
    Due.same("by other prices", x.best(1), 5);
    Due.same("other bits are not looked at", x.best(256), 1);
  }
}
