/** Promises 8 to 13: the RULES, the SUM and the cuts. */
public final class RulesTest {
  private static final int MIN = Integer.MIN_VALUE;
  private static final int MAX = Integer.MAX_VALUE;

  public static void main(String[] args) {
    fixed();
    rollingRefused();
    told();
    toldRefused();
    sum();
    rolling();
    two();
    twoAtTheEnd();
    cutsRefused();
    changedRules();
    Due.close();
  }

  private static void fixed() {
    CutStore x = new CutStore();
    Due.file(x, 0, "abcdefg");
    Due.yes("fixed(5, 3)", x.fixed(5, 3));
    Due.begins("fixed 3", x, 5, 0, 0, 3, 6, 7);
    Due.begins("an empty file", x, 5, 1, 0);
    int[][] wrong = {{-1, 3}, {6, 3}, {MIN, 3}, {MAX, 3}, {5, 0}, {5, -1}, {5, 201}, {5, MIN}, {5, MAX}};
    for (int[] w : wrong) {
      Due.no("fixed(" + w[0] + ", " + w[1] + ")", x.fixed(w[0], w[1]));
    }
    Due.begins("it stays", x, 5, 0, 0, 3, 6, 7);
    Due.yes("fixed(0, 1)", x.fixed(0, 1));
    Due.begins("fixed 1", x, 0, 0, 0, 1, 2, 3, 4, 5, 6, 7);
    Due.yes("fixed(1, 200)", x.fixed(1, 200));
    Due.begins("fixed 200", x, 1, 0, 0, 7);
    Due.yes("fixed(2, 7)", x.fixed(2, 7));
    Due.begins("fixed 7", x, 2, 0, 0, 7);
    x.sow(3, 200, 1, 9);
    x.sow(3, 200, 1, 9);
    x.sow(3, 200, 1, 9);
    Due.begins("a full file", x, 1, 3, 0, 200, 400, 600);
    Due.same("600 pieces", x.cuts(0, 3), 600);
    Due.same("cut 600", x.cut(0, 3, 600), 600);
    Due.same("cut 601", x.cut(0, 3, 601), -1);
  }

  private static void rollingRefused() {
    CutStore x = new CutStore();
    Due.file(x, 0, "aaaa");
    int[][] wrong = {{-1, 1, 4, 1, 0, 0}, {6, 1, 4, 1, 0, 0}, {MIN, 1, 4, 1, 0, 0}, {MAX, 1, 4, 1, 0, 0},
        {0, 0, 4, 1, 0, 0}, {0, -1, 4, 1, 0, 0}, {0, 5, 4, 1, 0, 0}, {0, 1, 201, 1, 0, 0}, {0, 1, 0, 1, 0, 0},
        {0, 201, 201, 1, 0, 0}, {0, MIN, MAX, 1, 0, 0}, {0, 1, 4, 0, 0, 0}, {0, 1, 4, 17, 0, 0}, {0, 1, 4, MIN, 0, 0},
        {0, 1, 4, MAX, 0, 0}, {0, 1, 4, 1, -1, 0}, {0, 1, 4, 1, 9, 0}, {0, 1, 4, 1, MAX, 0}, {0, 1, 4, 1, 0, -1},
        {0, 1, 4, 1, 0, 256}, {0, 1, 4, 1, 0, MIN}, {0, 1, 4, 1, 0, MAX}};
    for (int[] w : wrong) {
      for (int two = 0; two < 2; two++) {
        Due.no("rolling(" + w[0] + ", " + two + ", " + w[1] + ", " + w[2] + ", " + w[3] + ", " + w[4] + ", " + w[5] + ")",
            x.rolling(w[0], two == 1, w[1], w[2], w[3], w[4], w[5]));
      }
    }
    Due.same("no rule came", x.cuts(0, 0), -1);
    Due.yes("all at their least", x.rolling(0, false, 1, 1, 1, 0, 0));
    Due.yes("all at their most", x.rolling(5, true, 200, 200, 16, 8, 255));
    Due.begins("one byte each", x, 0, 0, 0, 1, 2, 3, 4);
    Due.begins("one piece", x, 5, 0, 0, 4);
    Due.no("a wrong one later", x.rolling(0, true, 2, 4, 1, 9, 0));
    Due.begins("it stays", x, 0, 0, 0, 1, 2, 3, 4);
  }

  private static void told() {
    CutStore x = new CutStore();
    Due.file(x, 0, "a,b,,cdefgh,");
    x.told(0, 1, 200, ',');
    Due.begins("told", x, 0, 0, 0, 2, 4, 5, 12);
    x.told(0, 2, 200, ',');
    Due.begins("least 2", x, 0, 0, 0, 2, 4, 12);
    x.told(0, 3, 5, ',');
    Due.begins("least 3, most 5", x, 0, 0, 0, 4, 9, 12);
    x.told(0, 1, 3, ',');
    Due.begins("most 3", x, 0, 0, 0, 2, 4, 5, 8, 11, 12);
    x.told(0, 4, 4, ',');
    Due.begins("least and most 4", x, 0, 0, 0, 4, 8, 12);
    x.told(0, 1, 200, 'Q');
    Due.begins("no mark", x, 0, 0, 0, 12);
    Due.file(x, 1, "\u00ffa\u00ffb\u0000");
    x.told(1, 1, 9, 255);
    Due.begins("mark 255", x, 1, 1, 0, 1, 3, 5);
    x.told(1, 1, 9, 0);
    Due.begins("mark 0", x, 1, 1, 0, 5);
  }

  private static void toldRefused() {
    CutStore x = new CutStore();
    int[][] wrong = {{-1, 1, 4, 0}, {6, 1, 4, 0}, {MAX, 1, 4, 0}, {MIN, 1, 4, 0}, {0, 0, 4, 0}, {0, 5, 4, 0},
        {0, 1, 201, 0}, {0, 201, 201, 0}, {0, 1, 0, 0}, {0, 1, MAX, 0}, {0, MIN, 4, 0}, {0, 1, 4, -1}, {0, 1, 4, 256},
        {0, 1, 4, MIN}, {0, 1, 4, MAX}};
    for (int[] w : wrong) {
      Due.no("told(" + w[0] + ", " + w[1] + ", " + w[2] + ", " + w[3] + ")", x.told(w[0], w[1], w[2], w[3]));
    }
    Due.same("no rule came", x.cuts(0, 0), -1);
    Due.yes("all at their least", x.told(0, 1, 1, 0));
    Due.yes("all at their most", x.told(5, 200, 200, 255));
    Due.same("both are there", x.cuts(0, 0) + x.cuts(5, 0), 0);
  }

  private static void sum() {
    CutStore x = new CutStore();
    Due.file(x, 0, "\u0000\u0001\u0002\u0003\u00ff");
    x.rolling(0, false, 1, 200, 3, 0, 0);
    Due.same("sum at 0", x.sum(0, 0, 0), 1);
    Due.same("sum at 1", x.sum(0, 0, 1), 2 + 31);
    Due.same("sum at 2", x.sum(0, 0, 2), 3 + 31 * 2 + 961);
    Due.same("sum at 3", x.sum(0, 0, 3), 4 + 31 * 3 + 961 * 2);
    Due.same("sum at 4", x.sum(0, 0, 4), 256 + 31 * 4 + 961 * 3);
    x.rolling(1, true, 1, 200, 1, 8, 9);
    Due.same("window 1, TWO", x.sum(1, 0, 4), 256);
    x.sow(1, 200, 77, 256);
    x.rolling(2, false, 1, 2, 16, 8, 255);
    Due.same("window 16 at 14", x.sum(2, 1, 14), plainSum(x, 1, 14, 16));
    Due.same("window 16 at 15", x.sum(2, 1, 15), plainSum(x, 1, 15, 16));
    Due.same("window 16 at 16", x.sum(2, 1, 16), plainSum(x, 1, 16, 16));
    Due.same("window 16 at 199", x.sum(2, 1, 199), plainSum(x, 1, 199, 16));
    Due.same("behind the end", x.sum(2, 1, 200), -1);
    Due.same("ahead of the beginning", x.sum(2, 1, -1), -1);
    Due.same("far behind", x.sum(2, 1, MAX), -1);
    Due.same("far ahead", x.sum(2, 1, MIN), -1);
    Due.same("an empty file", x.sum(2, 2, 0), -1);
    Due.same("no such file", x.sum(2, 8, 0), -1);
    Due.same("no such file", x.sum(2, -1, 0), -1);
    Due.same("no such rule", x.sum(3, 1, 0), -1);
    Due.same("no such rule", x.sum(6, 1, 0), -1);
    Due.same("no such rule", x.sum(-1, 1, 0), -1);
    x.fixed(3, 2);
    Due.same("a FIXED rule", x.sum(3, 1, 0), -1);
    x.told(2, 1, 2, 3);
    Due.same("a TOLD rule that was ROLLING", x.sum(2, 1, 0), -1);
  }

  private static void rolling() {
    CutStore x = new CutStore();
    // By window 1 the SUM is the byte and 1: the SIGN of 0x2f is 3, of 0x3f is 4.
    Due.file(x, 0, "\u0000\u002f\u0000\u0000\u002f\u002f\u0000\u003f\u0000\u0000");
    x.rolling(0, false, 1, 200, 1, 2, 3);
    Due.begins("SIGN 3 of 2 bits", x, 0, 0, 0, 2, 5, 6, 10);
    x.rolling(0, false, 1, 200, 1, 2, 255);
    Due.begins("mark 255 is 3 by 2 bits", x, 0, 0, 0, 2, 5, 6, 10);
    x.rolling(0, false, 1, 200, 1, 3, 3);
    Due.begins("SIGN 3 of 3 bits", x, 0, 0, 0, 2, 5, 6, 10);
    x.rolling(0, false, 1, 200, 1, 3, 4);
    Due.begins("SIGN 4 of 3 bits", x, 0, 0, 0, 8, 10);
    x.rolling(0, false, 2, 200, 1, 2, 3);
    Due.begins("least 2", x, 0, 0, 0, 2, 5, 10);
    x.rolling(0, false, 3, 200, 1, 2, 3);
    Due.begins("least 3", x, 0, 0, 0, 5, 10);
    x.rolling(0, false, 1, 3, 1, 2, 3);
    Due.begins("most 3", x, 0, 0, 0, 2, 5, 6, 9, 10);
    x.rolling(0, false, 2, 200, 1, 0, 77);
    Due.begins("no bits", x, 0, 0, 0, 2, 4, 6, 8, 10);
    x.rolling(0, false, 3, 3, 1, 8, 77);
    Due.begins("least and most 3", x, 0, 0, 0, 3, 6, 9, 10);
    // The window reaches back over the cut: by window 2 the SUM at 2 is 1 + 31 * 16 = 497, SIGN 31.
    Due.file(x, 1, "\u0000\u000f\u0000\u0000");
    x.rolling(1, false, 2, 200, 2, 5, 31);
    Due.same("sum at 2", x.sum(1, 1, 2), 497);
    Due.begins("window 2", x, 1, 1, 0, 3, 4);
    x.rolling(1, false, 1, 2, 2, 5, 31);
    Due.begins("the window reaches over the cut", x, 1, 1, 0, 2, 3, 4);
    // By window 1 the SUM of 255 is 256: SIGN 16, which is 0 by 4 bits.
    Due.file(x, 2, "\u00fe\u00ff\u00fe");
    x.rolling(2, false, 1, 200, 1, 4, 16);
    Due.begins("SIGN 16 by 4 bits", x, 2, 2, 0, 2, 3);
    x.rolling(2, false, 1, 200, 1, 5, 16);
    Due.begins("SIGN 16 by 5 bits", x, 2, 2, 0, 2, 3);
    x.rolling(2, false, 1, 200, 1, 5, 0);
    Due.begins("SIGN 0 by 5 bits", x, 2, 2, 0, 3);
  }

  private static void two() {
    CutStore x = new CutStore();
    // SIGNS by window 1:  0 1 0 1 0 0 3 0 0 0 0 0
    Due.file(x, 0, "\u0000\u000f\u0000\u000f\u0000\u0000\u002f\u0000\u0000\u0000\u0000\u0000");
    x.rolling(0, true, 1, 6, 1, 2, 3);
    Due.begins("the last spare one", x, 0, 0, 0, 4, 7, 12);
    x.rolling(0, true, 1, 200, 1, 2, 3);
    Due.begins("the SIGN comes ahead of most", x, 0, 0, 0, 7, 12);
    x.rolling(0, true, 1, 7, 1, 2, 3);
    Due.begins("the SIGN at most", x, 0, 0, 0, 7, 12);
    x.rolling(0, true, 5, 6, 1, 2, 3);
    Due.begins("spare ones below least do not count", x, 0, 0, 0, 6, 12);
    x.rolling(0, true, 4, 6, 1, 2, 3);
    Due.begins("a spare one at least", x, 0, 0, 0, 4, 10, 12);
    x.rolling(0, true, 1, 4, 1, 2, 3);
    Due.begins("a spare one at most", x, 0, 0, 0, 4, 7, 11, 12);
    x.rolling(0, true, 2, 3, 1, 2, 2);
    Due.begins("spare ones by one bit less of the mark", x, 0, 0, 0, 3, 6, 9, 12);
    x.rolling(0, true, 3, 5, 1, 1, 1);
    Due.begins("one bit: spare ones by none", x, 0, 0, 0, 4, 7, 12);
    x.rolling(0, true, 5, 6, 1, 0, 1);
    Due.begins("no bits", x, 0, 0, 0, 5, 10, 12);
    x.rolling(0, false, 1, 6, 1, 2, 3);
    Due.begins("ROLLING has no spare ones", x, 0, 0, 0, 6, 7, 12);
  }

  private static void twoAtTheEnd() {
    CutStore x = new CutStore();
    // SIGNS by window 1:  0 1 0 0
    Due.file(x, 0, "\u0000\u000f\u0000\u0000");
    x.rolling(0, true, 1, 5, 1, 2, 3);
    Due.begins("the FILE ends ahead of most", x, 0, 0, 0, 4);
    x.rolling(0, true, 1, 4, 1, 2, 3);
    Due.begins("the FILE ends with most", x, 0, 0, 0, 2, 4);
    x.rolling(0, true, 3, 4, 1, 2, 3);
    Due.begins("the FILE ends with most, none spare", x, 0, 0, 0, 4);
  }

  private static void cutsRefused() {
    CutStore x = new CutStore();
    Due.file(x, 0, "abcd");
    x.fixed(1, 2);
    for (int r : new int[] {-1, 0, 6, MIN, MAX}) {
      Due.same("cuts(" + r + ", 0)", x.cuts(r, 0), -1);
      Due.same("cut(" + r + ", 0, 0)", x.cut(r, 0, 0), -1);
    }
    for (int f : new int[] {-1, 8, MIN, MAX}) {
      Due.same("cuts(1, " + f + ")", x.cuts(1, f), -1);
      Due.same("cut(1, " + f + ", 0)", x.cut(1, f, 0), -1);
    }
    for (int k : new int[] {-1, 3, 600, 601, MIN, MAX}) {
      Due.same("cut(1, 0, " + k + ")", x.cut(1, 0, k), -1);
    }
    Due.same("cut(1, 0, 2)", x.cut(1, 0, 2), 4);
  }

  private static void changedRules() {
    CutStore x = new CutStore();
    Due.file(x, 0, "a,b,c");
    x.fixed(0, 2);
    Due.begins("FIXED", x, 0, 0, 0, 2, 4, 5);
    x.told(0, 3, 5, ',');
    Due.begins("then TOLD", x, 0, 0, 0, 4, 5);
    x.rolling(0, false, 1, 3, 1, 0, 0);
    Due.begins("then ROLLING", x, 0, 0, 0, 1, 2, 3, 4, 5);
    x.fixed(0, 5);
    Due.begins("then FIXED", x, 0, 0, 0, 5);
    Due.same("the file changes", x.edit(0, 1, 1), 4);
    Due.begins("the file changed", x, 0, 0, 0, 4);
  }

  private static int plainSum(CutStore x, int f, int place, int window) {
    long sum = 0;
    long factor = 1;
    for (int j = 0; j < window && place - j >= 0; j++) {
      sum += (x.at(f, place - j) + 1) * factor % 65536;
      factor = factor * 31 % 65536;
    }
    return (int) (sum % 65536);
  }
}
