/** Promises 14 to 17: FILES held against one another, and what RULES cost. */
public final class CompareTest {
  private static final int MIN = Integer.MIN_VALUE;
  private static final int MAX = Integer.MAX_VALUE;

  public static void main(String[] args) throws IllegalAccessException {
    Due.run(CompareTest.class);
  }

  @Sentence("Promise 14: From the end of two FILES backwards: how many PIECES by a RULE they have alike, one by one")
  static void agree() {
    Used x = new Used();
    x.told(0, 1, 200, ',');
    x.file(0, "aa,bb,cc,dd");
    x.file(1, "x,bb,cc,dd");
    Due.same(x.agree(0, 0, 1), 3);
    Due.same(x.agree(0, 1, 0), 3);
    x.file(2, "aa,bb,cc,d");
    Due.same(x.agree(0, 0, 2), 0);
    x.file(3, "aa,bX,cc,dd");
    Due.same(x.agree(0, 0, 3), 2);
    x.file(4, "d,cc,dd");
    x.file(5, "dd,cc,dd");
    Due.same(x.agree(0, 4, 5), 2);
    x.fixed(1, 2);
    Due.same(x.agree(1, 0, 1), 0);
  }

  @Sentence("Promise 14: how many PIECES by a RULE they have alike (all of one of them)")
  static void agreeAll() {
    Used x = new Used();
    x.told(0, 1, 200, ',');
    x.file(0, "aa,bb,cc,dd");
    x.file(7, "cc,dd");
    Due.same(x.agree(0, 0, 7), 2);
    Due.same(x.agree(0, 7, 0), 2);
    Due.same(x.agree(0, 0, 0), 4);
    x.copy(0, 7);
    Due.same(x.agree(0, 0, 7), 4);
    x.fixed(1, 1);
    x.fullFile(1);
    x.copy(1, 2);
    Due.same(x.agree(1, 1, 2), 600);
    x.tape("?");
    x.edit(2, 1, 1);
    Due.same(x.agree(1, 1, 2), 598);
  }

  @Sentence("Promise 14: how many PIECES by a RULE they have alike (of FILES without bytes)")
  static void agreeEmpty() {
    Used x = new Used();
    x.fixed(0, 2);
    x.file(0, "abcd");
    Due.same(x.agree(0, 0, 1), 0);
    Due.same(x.agree(0, 1, 0), 0);
    Due.same(x.agree(0, 1, 2), 0);
    Due.same(x.agree(0, 1, 1), 0);
  }

  @Sentence("Promise 14: NONE when there are none such.")
  static void agreeNoneSuch() {
    Used x = new Used();
    x.fixed(2, 4);
    for (int r : Used.NO_RULES) {
      Due.same(x.agree(r, 0, 0), -1);
    }
    Due.same(x.agree(0, 0, 0), -1);
    for (int f : Used.NO_FILES) {
      Due.same(x.agree(2, f, 0), -1);
      Due.same(x.agree(2, 0, f), -1);
      Due.same(x.agree(2, f, f), -1);
    }
  }

  @Sentence("Promise 15: How many bytes the PIECES of FILE g by a RULE have (each such piece once) that FILE f has not")
  static void sent() {
    Used x = new Used();
    x.told(0, 1, 200, ',');
    x.file(0, "a,b,c,");
    x.file(7, "a,xx,b,xx,yyy,c");
    Due.same(x.sent(0, 0, 7), 3 + 4 + 1);
    Due.same(x.sent(0, 7, 0), 2);
    x.fixed(1, 1);
    x.file(2, "abcabcabc");
    x.file(3, "cbddd");
    Due.same(x.sent(1, 2, 3), 1);
    Due.same(x.sent(1, 3, 2), 1);
  }

  @Sentence("Promise 15: that FILE f has not among its own (all or none of them)")
  static void sentAllOrNone() {
    Used x = new Used();
    x.fixed(0, 2);
    x.file(0, "abcdab");
    x.file(1, "efgh");
    Due.same(x.sent(0, 0, 0), 0);
    Due.same(x.sent(0, 0, 1), 4);
    Due.same(x.sent(0, 1, 0), 4);
    Due.same(x.sent(0, 2, 0), 4);
    Due.same(x.sent(0, 0, 2), 0);
    Due.same(x.sent(0, 2, 2), 0);
    x.words(3, 1000, 300);
    Due.same(x.sent(0, 0, 3), 600);
    x.words(4, 1001, 300);
    Due.same(x.sent(0, 3, 4), 2);
  }

  @Sentence("Promise 15: NONE likewise.")
  static void sentNoneSuch() {
    Used x = new Used();
    x.fixed(2, 4);
    for (int r : Used.NO_RULES) {
      Due.same(x.sent(r, 0, 0), -1);
    }
    Due.same(x.sent(0, 0, 0), -1);
    for (int f : Used.NO_FILES) {
      Due.same(x.sent(2, f, 0), -1);
      Due.same(x.sent(2, 0, f), -1);
      Due.same(x.sent(2, f, f), -1);
    }
  }

  @Sentence("Terms II: COST of a RULE for some FILES, as they are: what the ROOM would be if just these were KEPT by it")
  static void cost() {
    Used x = new Used();
    x.fixed(0, 2);
    x.file(0, "ababcd");
    x.file(1, "cdefe");
    x.file(7, "ef");
    Due.same(x.cost(0, 1), 4 + 2 * 8 + 3 * 2);
    Due.same(x.cost(0, 2), 5 + 3 * 8 + 3 * 2);
    Due.same(x.cost(0, 3), 7 + 4 * 8 + 6 * 2);
    Due.same(x.cost(0, 128), 2 + 8 + 2);
    Due.same(x.cost(0, 255), 7 + 4 * 8 + 7 * 2);
    x.prices(100, 0);
    Due.same(x.cost(0, 1), 4 + 200);
    x.prices(0, 100);
    Due.same(x.cost(0, 1), 4 + 300);
    x.file(0, "zz");
    Due.same(x.cost(0, 1), 2 + 100);
  }

  @Sentence("Terms II: in an empty STORE")
  static void costInAnEmptyStore() {
    Used x = new Used();
    x.fixed(0, 2);
    x.file(0, "abca");
    x.file(1, "abca");
    x.keep(0, 0);
    int met = x.count(4);
    Due.same(met, 1);
    Due.same(x.cost(0, 1), 4 + 2 * 8 + 2 * 2);
    Due.same(x.cost(0, 2), 4 + 2 * 8 + 2 * 2);
    Due.same(x.best(3), 0);
    x.dueStore(2, 4, 2, 1);
    Due.same(x.count(4), met);
  }

  @Sentence("Promise 16: for the FILES that bits 0 to 7 tell")
  static void costOfEachFile() {
    Used x = new Used();
    x.fixed(5, 200);
    x.prices(0, 0);
    for (int f = 0; f < 8; f++) {
      x.file(f, "abcdefgh".substring(f));
    }
    for (int f = 0; f < 8; f++) {
      Due.same(x.cost(5, 1 << f), 8 - f);
    }
    Due.same(x.cost(5, 129), 9);
    Due.same(x.cost(5, 255), 36);
  }

  @Sentence("Promise 16: for the FILES that bits 0 to 7 tell (none of them, or none with bytes)")
  static void costOfNone() {
    Used x = new Used();
    x.fixed(0, 2);
    x.file(0, "ab");
    Due.same(x.cost(0, 0), 0);
    Due.same(x.cost(0, 254), 0);
    Due.same(x.cost(0, 255), 2 + 8 + 2);
  }

  @Sentence("Promise 16: (other bits are not looked at)")
  static void costOtherBits() {
    Used x = new Used();
    x.fixed(0, 2);
    x.file(0, "ab");
    x.file(7, "cd");
    Due.same(x.cost(0, 256), 0);
    Due.same(x.cost(0, MIN), 0);
    Due.same(x.cost(0, ~255), 0);
    Due.same(x.cost(0, 257), 12);
    Due.same(x.cost(0, MIN | 128), 12);
    Due.same(x.cost(0, -1), 24);
    Due.same(x.cost(0, MAX), 24);
  }

  @Sentence("Promise 16: COST of a RULE (with more PIECES than THE STORE can have: no limit of COST is told)")
  static void costOfMany() {
    Used x = new Used();
    for (int f = 0; f < 8; f++) {
      x.words(f, f * 300, 300);
    }
    x.fixed(0, 2);
    Due.same(x.cost(0, 1), 600 + 300 * 8 + 300 * 2);
    Due.same(x.cost(0, 3), 1200 + 600 * 8 + 600 * 2);
    Due.same(x.cost(0, 255), 4800 + 2400 * 8 + 2400 * 2);
    x.fixed(1, 1);
    Due.same(x.cost(1, 255), 256 + 256 * 8 + 4800 * 2);
    x.fixed(2, 200);
    Due.same(x.cost(2, 255), 4800 + 24 * 8 + 24 * 2);
    Due.same(x.best(255), 2);
    x.prices(100, 100);
    Due.same(x.cost(0, 255), 4800 + 2400 * 100 + 2400 * 100);
    Due.same(x.cost(1, 255), 256 + 256 * 100 + 4800 * 100);
  }

  @Sentence("Promise 16: NONE when there is no such RULE.")
  static void costNoSuchRule() {
    Used x = new Used();
    x.fixed(2, 4);
    for (int r : Used.NO_RULES) {
      Due.same(x.cost(r, 255), -1);
      Due.same(x.cost(r, 0), -1);
    }
    Due.same(x.cost(0, 255), -1);
    Due.same(x.cost(0, 0), -1);
  }

  @Sentence("Promise 17: The RULE of the least COST for some FILES")
  static void best() {
    Used x = new Used();
    x.file(0, "aaaaaaaa");
    x.file(7, "abcdefgh");
    x.fixed(5, 8);
    Due.same(x.best(1), 5);
    x.fixed(3, 4);
    Due.same(x.cost(5, 1), 8 + 8 + 2);
    Due.same(x.cost(3, 1), 4 + 8 + 4);
    Due.same(x.best(1), 3);
    Due.same(x.best(128), 5);
    x.prices(8, 100);
    Due.same(x.best(1), 5);
    x.prices(0, 0);
    x.fixed(0, 1);
    Due.same(x.best(1), 0);
  }

  @Sentence("Promise 17: (of several the least number)")
  static void bestOfSeveral() {
    Used x = new Used();
    x.file(0, "aaaaaaaa");
    x.fixed(5, 4);
    x.fixed(4, 4);
    Due.same(x.best(1), 4);
    x.fixed(1, 4);
    Due.same(x.best(1), 1);
    x.fixed(0, 8);
    Due.same(x.best(1), 1);
    Due.same(x.best(0), 0);
    Due.same(x.best(256), 0);
    Due.same(x.best(MIN | 1), 1);
  }

  @Sentence("Promise 17: NONE without RULES.")
  static void bestWithoutRules() {
    Used x = new Used();
    x.file(0, "abc");
    Due.same(x.best(1), -1);
    Due.same(x.best(0), -1);
    Due.same(x.best(-1), -1);
    x.fixed(0, 201);
    Due.same(x.best(1), -1);
    x.fixed(5, 200);
    Due.same(x.best(0), 5);
  }
}
