/** Promises 8 to 13: the RULES as they are told, and what is asked of them. */
public final class RulesTest {
  private static final int MIN = Integer.MIN_VALUE;
  private static final int MAX = Integer.MAX_VALUE;

  public static void main(String[] args) throws IllegalAccessException {
    Due.run(RulesTest.class);
  }

  @Sentence("Terms I: RULES 0 .. 5 tell how a FILE is cut")
  static void allRules() {
    Used x = new Used();
    x.file(0, "abcdefg");
    for (int r = 0; r < 6; r++) {
      Due.yes(x.fixed(r, r + 1));
    }
    int[] want = {7, 4, 3, 2, 2, 2};
    for (int r = 0; r < 6; r++) {
      Due.same(x.cuts(r, 0), want[r]);
      Due.same(x.cut(r, 0, 1), r + 1);
    }
  }

  @Sentence("Promise 8: RULE r is FIXED: true")
  static void fixed() {
    Used x = new Used();
    x.fullFile(0);
    Due.yes(x.fixed(0, 1));
    Due.yes(x.fixed(5, 200));
    Due.same(x.cuts(0, 0), 600);
    Due.same(x.cuts(5, 0), 3);
  }

  @Sentence("Promise 8: false when that can't be. (No such RULE)")
  static void fixedNoSuchRule() {
    Used x = new Used();
    for (int r : Used.NO_RULES) {
      Due.no(x.fixed(r, 3));
    }
    Due.same(x.best(255), -1);
  }

  @Sentence("Terms I: size (1 .. 200)")
  static void fixedSize() {
    Used x = new Used();
    x.file(0, "abcdefg");
    for (int size : new int[] {0, -1, 201, 256, MIN, MAX}) {
      Due.no(x.fixed(0, size));
      Due.no(x.fixed(5, size));
    }
    Due.same(x.best(255), -1);
    x.fixed(0, 3);
    Due.no(x.fixed(0, 0));
    Due.no(x.fixed(0, 201));
    x.dueCuts(0, 0, 0, 3, 6, 7);
  }

  @Sentence("Promise 9: RULE r is ROLLING (two: TWO): true")
  static void rolling() {
    Used x = new Used();
    x.signs(0, 1, 0, 0);
    Due.yes(x.rolling(0, false, 1, 2, 1, 2, 3));
    Due.yes(x.rolling(5, true, 1, 2, 1, 2, 3));
    x.dueCuts(0, 0, 0, 2, 3);
    x.dueCuts(5, 0, 0, 1, 3);
  }

  @Sentence("Promise 9: RULE r is ROLLING (two: TWO): true (all numbers at their least, all at their most)")
  static void rollingAtTheEdges() {
    Used x = new Used();
    x.signs(0, 1, 0, 0);
    for (int two = 0; two < 2; two++) {
      Due.yes(x.rolling(0, two == 1, 1, 1, 1, 0, 0));
      Due.yes(x.rolling(5, two == 1, 200, 200, 16, 8, 255));
      x.dueCuts(0, 0, 0, 1, 2, 3);
      x.dueCuts(5, 0, 0, 3);
      Due.yes(x.rolling(1, two == 1, 1, 200, 16, 8, 255));
      x.dueCuts(1, 0, 0, 3);
    }
  }

  @Sentence("Promise 9: false when that can't be. (No such RULE)")
  static void rollingNoSuchRule() {
    Used x = new Used();
    for (int r : Used.NO_RULES) {
      rollingRefused(x, r, 1, 4, 1, 0, 0);
    }
    Due.same(x.best(255), -1);
  }

  @Sentence("Terms I: least and most (1 .. 200, least not above most)")
  static void rollingLeastAndMost() {
    Used x = new Used();
    int[][] wrong = {{0, 4}, {-1, 4}, {MIN, 4}, {1, 201}, {200, 201}, {201, 201}, {1, MAX}, {MAX, MAX}, {0, 0}, {1, 0},
      {MIN, MAX}, {-4, -4}, {5, 4}, {200, 199}, {2, 1}, {201, 200}, {MAX, 200}};
    for (int[] w : wrong) {
      rollingRefused(x, 0, w[0], w[1], 1, 0, 0);
    }
    Due.same(x.best(255), -1);
    Due.yes(x.rolling(0, false, 4, 4, 1, 0, 0));
    Due.yes(x.rolling(0, true, 199, 200, 1, 0, 0));
  }

  @Sentence("Terms I: window (1 .. 16)")
  static void rollingWindow() {
    Used x = new Used();
    for (int window : new int[] {0, -1, 17, 32, MIN, MAX}) {
      rollingRefused(x, 0, 1, 4, window, 0, 0);
    }
    Due.same(x.best(255), -1);
  }

  @Sentence("Terms I: bits (0 .. 8)")
  static void rollingBits() {
    Used x = new Used();
    for (int bits : new int[] {-1, 9, 32, MIN, MAX}) {
      rollingRefused(x, 0, 1, 4, 1, bits, 0);
    }
    Due.same(x.best(255), -1);
  }

  @Sentence("Terms I: mark (0 .. 255). The SUM at a place")
  static void rollingMark() {
    Used x = new Used();
    for (int mark : new int[] {-1, 256, 512, MIN, MAX}) {
      rollingRefused(x, 0, 1, 4, 1, 0, mark);
    }
    Due.same(x.best(255), -1);
  }

  @Sentence("Promise 9: false when that can't be. (The RULE stays as it was)")
  static void rollingRefusedStays() {
    Used x = new Used();
    x.signs(0, 1, 0, 0, 1, 0);
    x.rolling(0, true, 1, 2, 2, 2, 3);
    Due.same(x.sum(0, 0, 1), 1 + 31 * 17);
    x.rolling(0, true, 1, 2, 1, 2, 3);
    rollingRefused(x, 0, 2, 1, 2, 0, 0);
    rollingRefused(x, 0, 2, 3, 17, 0, 0);
    rollingRefused(x, 0, 2, 3, 2, 9, 0);
    rollingRefused(x, 0, 2, 3, 2, 0, 256);
    Due.same(x.sum(0, 0, 1), 1);
    x.dueCuts(0, 0, 0, 1, 3, 4, 5);
  }

  private static void rollingRefused(Used x, int r, int least, int most, int window, int bits, int mark) {
    Due.no(x.rolling(r, false, least, most, window, bits, mark));
    Due.no(x.rolling(r, true, least, most, window, bits, mark));
  }

  @Sentence("Promise 10: RULE r is TOLD: true")
  static void told() {
    Used x = new Used();
    x.file(0, "\u00ffa\u0000bc");
    Due.yes(x.told(0, 1, 1, 0));
    Due.yes(x.told(5, 200, 200, 255));
    Due.yes(x.told(1, 1, 200, 255));
    x.dueCuts(0, 0, 0, 1, 2, 3, 4, 5);
    x.dueCuts(5, 0, 0, 5);
    x.dueCuts(1, 0, 0, 1, 5);
  }

  @Sentence("Promise 10: false when that can't be. (No such RULE)")
  static void toldNoSuchRule() {
    Used x = new Used();
    for (int r : Used.NO_RULES) {
      Due.no(x.told(r, 1, 4, 0));
    }
    Due.same(x.best(255), -1);
  }

  @Sentence("Promise 10: false when that can't be. (least and most, mark; the RULE stays as it was)")
  static void toldRefused() {
    Used x = new Used();
    x.file(0, "a,b,c");
    x.told(1, 1, 4, ',');
    int[][] wrong = {{0, 4, 0}, {-1, 4, 0}, {MIN, 4, 0}, {5, 4, 0}, {2, 1, 0}, {1, 201, 0}, {201, 201, 0}, {1, 0, 0},
      {0, 0, 0}, {1, MAX, 0}, {MAX, MAX, 0}, {1, 4, -1}, {1, 4, 256}, {1, 4, MIN}, {1, 4, MAX}};
    for (int[] w : wrong) {
      Due.no(x.told(0, w[0], w[1], w[2]));
      Due.no(x.told(1, w[0], w[1], w[2]));
    }
    Due.same(x.cuts(0, 0), -1);
    x.dueCuts(1, 0, 0, 2, 4, 5);
  }

  @Sentence("Terms I: RULES 0 .. 5 (a RULE becomes another KIND, and nothing of the one before is left)")
  static void anotherKind() {
    Used x = new Used();
    x.file(0, "a,b,c");
    x.fixed(0, 2);
    x.dueCuts(0, 0, 0, 2, 4, 5);
    x.told(0, 3, 5, ',');
    x.dueCuts(0, 0, 0, 4, 5);
    x.rolling(0, false, 1, 3, 1, 0, 0);
    x.dueCuts(0, 0, 0, 1, 2, 3, 4, 5);
    x.rolling(0, true, 3, 3, 1, 0, 0);
    x.dueCuts(0, 0, 0, 3, 5);
    x.told(0, 1, 5, ',');
    x.dueCuts(0, 0, 0, 2, 4, 5);
    x.fixed(0, 5);
    x.dueCuts(0, 0, 0, 5);
  }

  @Sentence("Promise 11: SUM of a FILE at a place, by the window of a ROLLING or TWO RULE")
  static void sum() {
    Used x = new Used();
    x.file(0, "abcd");
    x.rolling(0, false, 1, 200, 2, 0, 0);
    x.rolling(5, true, 200, 200, 3, 8, 255);
    Due.same(x.sum(0, 0, 3), 101 + 31 * 100);
    Due.same(x.sum(5, 0, 3), 101 + 31 * 100 + 961 * 99 - 65536);
    x.fullFile(7);
    Due.same(x.sum(0, 7, 599), x.at(7, 599) + 1 + 31 * (x.at(7, 598) + 1));
    x.edit(0, 3, 1);
    Due.same(x.sum(0, 0, 2), 100 + 31 * 99);
    Due.same(x.sum(0, 0, 3), -1);
  }

  @Sentence("Promise 11: NONE when there is none such. (No such place)")
  static void sumNoSuchPlace() {
    Used x = new Used();
    x.file(0, "abcd");
    x.rolling(0, false, 1, 200, 2, 0, 0);
    for (int i : new int[] {4, 5, -1, 599, 600, MIN, MAX}) {
      Due.same(x.sum(0, 0, i), -1);
    }
    Due.same(x.sum(0, 1, 0), -1);
  }

  @Sentence("Promise 11: NONE when there is none such. (No such FILE)")
  static void sumNoSuchFile() {
    Used x = new Used();
    x.rolling(0, false, 1, 200, 2, 0, 0);
    for (int f : Used.NO_FILES) {
      Due.same(x.sum(0, f, 0), -1);
    }
  }

  @Sentence("Promise 11: by the window of a ROLLING or TWO RULE; NONE when there is none such.")
  static void sumNoSuchRule() {
    Used x = new Used();
    x.file(0, "abcd");
    for (int r : Used.NO_RULES) {
      Due.same(x.sum(r, 0, 0), -1);
    }
    Due.same(x.sum(0, 0, 0), -1);
    x.fixed(0, 2);
    x.told(1, 1, 2, 3);
    Due.same(x.sum(0, 0, 0), -1);
    Due.same(x.sum(1, 0, 0), -1);
    x.rolling(2, false, 1, 200, 2, 0, 0);
    x.rolling(3, true, 1, 200, 2, 0, 0);
    Due.same(x.sum(2, 0, 0), 98);
    Due.same(x.sum(3, 0, 0), 98);
    x.told(2, 1, 2, 3);
    x.fixed(3, 2);
    Due.same(x.sum(2, 0, 0), -1);
    Due.same(x.sum(3, 0, 0), -1);
  }

  @Sentence("Promise 12: How many PIECES a FILE would be cut into by a RULE")
  static void cuts() {
    Used x = new Used();
    x.fixed(0, 1);
    x.fullFile(7);
    x.file(1, "a");
    Due.same(x.cuts(0, 7), 600);
    Due.same(x.cuts(0, 1), 1);
    Due.same(x.cuts(0, 0), 0);
    Due.same(x.count(0), 0);
    x.edit(7, 1, 599);
    Due.same(x.cuts(0, 7), 1);
  }

  @Sentence("Promise 12: NONE when there are none such.")
  static void cutsNoneSuch() {
    Used x = new Used();
    x.fixed(1, 2);
    x.file(0, "abcd");
    for (int r : Used.NO_RULES) {
      Due.same(x.cuts(r, 0), -1);
    }
    Due.same(x.cuts(0, 0), -1);
    for (int f : Used.NO_FILES) {
      Due.same(x.cuts(1, f), -1);
    }
  }

  @Sentence("Promise 13: Where PIECE k of these begins (k from 0 on; as many as there are: the FILE's length)")
  static void cut() {
    Used x = new Used();
    x.fixed(0, 3);
    x.file(0, "abcdefgh");
    Due.same(x.cut(0, 0, 0), 0);
    Due.same(x.cut(0, 0, 1), 3);
    Due.same(x.cut(0, 0, 2), 6);
    Due.same(x.cut(0, 0, 3), 8);
    Due.same(x.cut(0, 1, 0), 0);
    x.fixed(1, 1);
    x.fullFile(2);
    Due.same(x.cut(1, 2, 599), 599);
    Due.same(x.cut(1, 2, 600), 600);
  }

  @Sentence("Promise 13: NONE when there is none such. (No such PIECE)")
  static void cutNoSuchPiece() {
    Used x = new Used();
    x.fixed(0, 3);
    x.fixed(1, 1);
    x.fullFile(2);
    Due.same(x.cut(1, 2, 601), -1);
    Due.same(x.cut(1, 2, -1), -1);
    x.file(0, "abcdefgh");
    for (int k : new int[] {4, 5, -1, 600, 601, MIN, MAX}) {
      Due.same(x.cut(0, 0, k), -1);
    }
    Due.same(x.cut(0, 1, 1), -1);
    Due.same(x.cut(0, 1, -1), -1);
  }

  @Sentence("Promise 13: NONE when there is none such. (No such RULE or FILE)")
  static void cutNoneSuch() {
    Used x = new Used();
    x.fixed(1, 2);
    x.file(0, "abcd");
    for (int r : Used.NO_RULES) {
      Due.same(x.cut(r, 0, 0), -1);
    }
    Due.same(x.cut(0, 0, 0), -1);
    for (int f : Used.NO_FILES) {
      Due.same(x.cut(1, f, 0), -1);
    }
  }
}
