/** Promises 18 to 22: what is KEPT of the FILES. */
public final class StoreTest {
  private static final int MIN = Integer.MIN_VALUE;
  private static final int MAX = Integer.MAX_VALUE;

  public static void main(String[] args) throws IllegalAccessException {
    Due.run(StoreTest.class);
  }

  @Sentence("Promise 18: how many new PIECES")
  static void keep() {
    Used x = new Used();
    x.fixed(0, 2);
    x.file(0, "ababcda");
    Due.same(x.keep(0, 0), 3);
    x.dueNumbers(0, 1, 1, 2, 3);
    x.file(7, "cdabef");
    Due.same(x.keep(0, 7), 1);
    x.dueNumbers(7, 2, 1, 4);
    x.dueStore(4, 7, 7, 2);
  }

  @Sentence("Terms II: KEPT, of a FILE: the numbers of its PIECES as it was when it was kept")
  static void keptAsItWas() {
    Used x = new Used();
    x.fixed(0, 1);
    x.file(0, "abc");
    x.keep(0, 0);
    x.file(0, "xyzw");
    x.fixed(0, 200);
    x.dueNumbers(0, 1, 2, 3);
    x.dueStore(3, 3, 3, 1);
    Due.same(x.bring(0), 3);
    x.dueText(0, "abc");
  }

  @Sentence("Promise 18: A FILE is KEPT by a RULE, as it is (without bytes)")
  static void keepEmpty() {
    Used x = new Used();
    x.fixed(0, 1);
    Due.same(x.keep(0, 3), 0);
    x.dueNumbers(3);
    x.dueStore(0, 0, 0, 1);
    x.file(3, "abc");
    Due.same(x.keep(0, 3), 3);
    x.file(3, "");
    Due.same(x.keep(0, 3), 0);
    x.dueStore(0, 0, 0, 1);
    Due.same(x.bring(3), 0);
  }

  @Sentence("Promise 18: (what was KEPT of it before goes, when the new one is there)")
  static void keepAnew() {
    Used x = new Used();
    x.fixed(0, 1);
    x.file(0, "abc");
    x.keep(0, 0);
    Due.same(x.keep(0, 0), 0);
    x.dueStore(3, 3, 3, 1);
    Due.same(x.piece(1, 1), 1);
    x.file(0, "cde");
    Due.same(x.keep(0, 0), 2);
    x.dueNumbers(0, 3, 4, 5);
    x.dueStore(3, 3, 3, 1);
    Due.same(x.piece(1, 0), -1);
    Due.same(x.piece(2, 0), -1);
    Due.same(x.piece(3, 1), 1);
    x.file(0, "f");
    Due.same(x.keep(0, 0), 1);
    x.dueNumbers(0, 1);
    x.dueStore(1, 1, 1, 1);
  }

  @Sentence("Promise 18: what was KEPT of it before goes (it alone)")
  static void keepAnewBesideOthers() {
    Used x = new Used();
    x.fixed(0, 1);
    x.file(0, "ab");
    x.file(1, "bc");
    x.keep(0, 0);
    x.keep(0, 1);
    x.file(0, "x");
    Due.same(x.keep(0, 0), 1);
    x.dueNumbers(0, 4);
    x.dueNumbers(1, 2, 3);
    Due.same(x.piece(2, 1), 1);
    x.dueStore(3, 3, 3, 2);
  }

  @Sentence("Promise 18: -1 no such FILE")
  static void keepNoSuchFile() {
    Used x = new Used();
    x.fixed(1, 2);
    for (int f : Used.NO_FILES) {
      Due.same(x.keep(1, f), -1);
    }
    x.dueStore(0, 0, 0, 0);
  }

  @Sentence("Promise 18: -1 no such FILE, RULE")
  static void keepNoSuchRule() {
    Used x = new Used();
    x.fixed(1, 2);
    x.file(0, "abc");
    x.keep(1, 0);
    x.file(0, "xyz");
    for (int r : Used.NO_RULES) {
      Due.same(x.keep(r, 0), -1);
      Due.same(x.keep(r, 1), -1);
    }
    Due.same(x.keep(0, 0), -1);
    Due.same(x.keep(0, 1), -1);
    x.dueStore(2, 3, 2, 1);
    x.dueNumbers(0, 1, 2);
  }

  @Sentence("Promise 18: -2 there would be more than 300 PIECES")
  static void keepBeyond300() {
    Used x = new Used();
    x.fixed(0, 2);
    x.words(0, 0, 299);
    x.words(1, 1000, 2);
    x.words(2, 1000, 1);
    Due.same(x.keep(0, 0), 299);
    Due.same(x.keep(0, 1), -2);
    Due.same(x.keep(0, 2), 1);
    Due.same(x.count(0), 300);
    Due.same(x.number(2, 0), 300);
    Due.same(x.keep(0, 1), -2);
  }

  @Sentence("Promise 18: -2 there would be more than 300 PIECES (of one FILE alone)")
  static void keep300OfOneFile() {
    Used x = new Used();
    x.fixed(0, 2);
    x.words(0, 500, 300);
    Due.same(x.keep(0, 0), 300);
    x.dueStore(300, 600, 300, 1);
    Due.same(x.piece(300, 0), 2);
    Due.same(x.number(0, 299), 300);
    Due.same(x.jumps(0), 1);
    x.edit(0, 0, 600);
    Due.same(x.bring(0), 600);
    Due.same(x.at(0, 598) * 256 + x.at(0, 599), 799);
    Due.same(x.at(0, 0) * 256 + x.at(0, 1), 500);
  }

  @Sentence("Terms II: one that comes anew is shared (when there are 300 too)")
  static void keepSharedWithFullStore() {
    Used x = new Used();
    x.fixed(0, 2);
    x.words(0, 0, 300);
    x.keep(0, 0);
    x.words(1, 150, 150);
    Due.same(x.keep(0, 1), 0);
    Due.same(x.keep(0, 2), 0);
    Due.same(x.keep(0, 0), 0);
    x.dueStore(300, 600, 450, 3);
    Due.same(x.number(1, 0), 151);
    Due.same(x.piece(151, 1), 2);
    Due.same(x.piece(150, 1), 1);
  }

  @Sentence("Promise 18: ahead of what goes")
  static void keepAheadOfWhatGoes() {
    Used x = new Used();
    x.fixed(0, 2);
    x.words(0, 0, 200);
    x.keep(0, 0);
    x.words(0, 1000, 101);
    Due.same(x.keep(0, 0), -2);
    x.dueStore(200, 400, 200, 1);
    x.words(0, 1000, 100);
    Due.same(x.keep(0, 0), 100);
    x.dueStore(100, 200, 100, 1);
    Due.same(x.number(0, 0), 201);
    Due.same(x.number(0, 99), 300);
    x.words(0, 2000, 200);
    Due.same(x.keep(0, 0), 200);
    Due.same(x.number(0, 0), 1);
    Due.same(x.number(0, 199), 200);
  }

  @Sentence("Promise 18: (nothing is done)")
  static void keepRefusedDoesNothing() {
    Used x = new Used();
    x.fixed(0, 2);
    x.words(0, 0, 150);
    x.words(1, 1000, 149);
    x.keep(0, 0);
    x.keep(0, 1);
    x.words(2, 0, 2);
    x.keep(0, 2);
    int met = x.count(4);
    x.words(2, 100, 52);
    Due.same(x.keep(0, 2), -2);
    x.dueStore(299, 598, 301, 3);
    Due.same(x.count(4), met);
    Due.same(x.count(3), 598 + 299 * 8 + 301 * 2);
    x.dueNumbers(2, 1, 2);
    Due.same(x.piece(1, 1), 2);
    Due.same(x.piece(101, 1), 1);
    Due.same(x.piece(300, 0), -1);
    Due.same(x.at(2, 1), 100);
    Due.same(x.edit(2, 0, 0), 104);
    Due.same(x.bring(1), 298);
    Due.same(x.at(1, 0) * 256 + x.at(1, 1), 1000);
    Due.same(x.at(1, 296) * 256 + x.at(1, 297), 1148);
    Due.same(x.drop(0), 148);
    x.dueStore(151, 302, 151, 2);
  }

  @Sentence("Promise 18: (nothing is done) (of a FILE of which nothing was KEPT)")
  static void keepRefusedKeepsNothing() {
    Used x = new Used();
    x.fixed(0, 2);
    x.words(0, 0, 300);
    x.words(1, 299, 2);
    x.keep(0, 0);
    Due.same(x.keep(0, 1), -2);
    Due.same(x.number(1, 0), -1);
    Due.same(x.jumps(1), -1);
    Due.same(x.bring(1), -1);
    Due.same(x.drop(1), -1);
    x.dueStore(300, 600, 300, 1);
  }

  @Sentence("What it is: An object is used for at most 512 calls (keeping and letting go up to the last one)")
  static void keepUpToTheLastCall() {
    Used x = new Used();
    x.fixed(0, 2);
    x.words(0, 0, 300);
    while (x.callsLeft() > 3) {
      Due.same(x.keep(0, 0), 300);
      Due.same(x.drop(0), 300);
    }
    x.keep(0, 0);
    Due.same(x.count(3), 600 + 300 * 8 + 300 * 2);
  }

  @Sentence("Promise 19: Nothing is KEPT of a FILE any more: how many PIECES go")
  static void drop() {
    Used x = new Used();
    x.fixed(0, 1);
    x.file(0, "aabc");
    x.file(7, "cd");
    x.keep(0, 0);
    x.keep(0, 7);
    Due.same(x.drop(0), 2);
    x.dueStore(2, 2, 2, 1);
    Due.same(x.piece(3, 1), 1);
    x.dueText(0, "aabc");
    x.dueNumbers(0);
    x.dueNumbers(7, 3, 4);
    Due.same(x.drop(7), 2);
    x.dueStore(0, 0, 0, 0);
  }

  @Sentence("Promise 19: how many PIECES go (none)")
  static void dropNone() {
    Used x = new Used();
    x.fixed(0, 1);
    x.keep(0, 5);
    Due.same(x.drop(5), 0);
    Due.same(x.drop(5), -1);
    x.file(0, "ab");
    x.copy(0, 1);
    x.keep(0, 0);
    x.keep(0, 1);
    Due.same(x.drop(0), 0);
    x.dueStore(2, 2, 2, 1);
  }

  @Sentence("Promise 19: NONE when nothing was")
  static void dropNothing() {
    Used x = new Used();
    x.fixed(0, 1);
    x.file(0, "ab");
    x.file(1, "ab");
    x.keep(0, 1);
    Due.same(x.drop(0), -1);
    Due.same(x.drop(1), 2);
    Due.same(x.drop(1), -1);
    x.dueStore(0, 0, 0, 0);
  }

  @Sentence("Promise 19: or there is none such.")
  static void dropNoneSuch() {
    Used x = new Used();
    x.fixed(0, 1);
    x.file(0, "ab");
    x.keep(0, 0);
    for (int f : Used.NO_FILES) {
      Due.same(x.drop(f), -1);
    }
    x.dueStore(2, 2, 2, 1);
  }

  @Sentence("Promise 20: A FILE becomes as it was KEPT: how many bytes")
  static void bring() {
    Used x = new Used();
    x.told(0, 1, 200, ',');
    x.file(7, "a,\u00ff\u0000,a,\u0080");
    x.keep(0, 7);
    x.file(7, "something else, and longer");
    x.tape("Q");
    Due.same(x.bring(7), 8);
    x.dueText(7, "a,\u00ff\u0000,a,\u0080");
    Due.same(x.bring(7), 8);
    Due.same(x.edit(7, 0, 8), 1);
    Due.same(x.bring(7), 8);
    x.dueStore(3, 6, 4, 1);
  }

  @Sentence("Promise 20: A FILE becomes as it was KEPT (empty)")
  static void bringEmpty() {
    Used x = new Used();
    x.fixed(0, 1);
    x.keep(0, 5);
    x.file(5, "zzz");
    Due.same(x.bring(5), 0);
    Due.same(x.at(5, 0), -1);
  }

  @Sentence("Promise 20: A FILE becomes as it was KEPT (full)")
  static void bringFull() {
    Used x = new Used();
    for (int f = 0; f < 4; f++) {
      x.fullFile(2 * f);
      x.copy(2 * f, 2 * f + 1);
    }
    x.fixed(0, 9);
    for (int f = 0; f < 8; f += 2) {
      Due.same(x.keep(0, f), 67);
      x.edit(f, 0, 600);
    }
    for (int f = 0; f < 8; f += 2) {
      Due.same(x.bring(f), 600);
      Due.same(x.agree(0, f, f + 1), 67);
    }
  }

  @Sentence("Promise 20: A FILE becomes as it was KEPT (though PIECES ahead of its own went)")
  static void bringBehindThoseThatWent() {
    Used x = new Used();
    x.fixed(0, 3);
    x.file(0, "abcdefg");
    x.file(1, "ABCDEFG");
    x.file(2, "0123456");
    for (int f = 0; f < 3; f++) {
      x.keep(0, f);
    }
    x.drop(0);
    x.file(3, "zyxw");
    x.keep(0, 3);
    x.drop(1);
    for (int f = 0; f < 4; f++) {
      x.edit(f, 0, 1);
    }
    Due.same(x.bring(2), 7);
    x.dueText(2, "0123456");
    Due.same(x.bring(3), 4);
    x.dueText(3, "zyxw");
    Due.same(x.bring(0), -1);
    Due.same(x.bring(1), -1);
  }

  @Sentence("Promise 20: NONE when nothing is")
  static void bringNothing() {
    Used x = new Used();
    x.fixed(0, 1);
    x.file(0, "abc");
    Due.same(x.bring(0), -1);
    x.keep(0, 0);
    x.drop(0);
    Due.same(x.bring(0), -1);
    x.dueText(0, "abc");
  }

  @Sentence("Promise 20: NONE when nothing is, or there is none such.")
  static void bringNoneSuch() {
    Used x = new Used();
    x.fixed(0, 1);
    x.file(0, "abc");
    x.keep(0, 0);
    for (int f : Used.NO_FILES) {
      Due.same(x.bring(f), -1);
    }
  }

  @Sentence("Promise 21: How often, in bringing a FILE back, a PIECE's number is not 1 more than the one ahead of it")
  static void jumps() {
    Used x = new Used();
    x.fixed(0, 1);
    x.file(0, "abcd");
    x.keep(0, 0);
    x.file(7, "aabcbadcd");
    x.keep(0, 7);
    // 1 1 2 3 2 1 4 3 4
    Due.same(x.jumps(7), 6);
    x.file(7, "dcba");
    x.keep(0, 7);
    Due.same(x.jumps(7), 4);
    x.file(7, "aaa");
    x.keep(0, 7);
    Due.same(x.jumps(7), 3);
    x.file(7, "acbd");
    x.keep(0, 7);
    Due.same(x.jumps(7), 4);
  }

  @Sentence("Promise 21: (the first one counts)")
  static void jumpsOfTheFirst() {
    Used x = new Used();
    x.fixed(0, 1);
    x.file(0, "abcd");
    x.keep(0, 0);
    Due.same(x.jumps(0), 1);
    x.file(1, "bcd");
    x.keep(0, 1);
    Due.same(x.jumps(1), 1);
    x.file(1, "a");
    x.keep(0, 1);
    Due.same(x.jumps(1), 1);
    x.keep(0, 2);
    Due.same(x.jumps(2), 0);
  }

  @Sentence("Promise 21: NONE when nothing is KEPT.")
  static void jumpsOfNothing() {
    Used x = new Used();
    x.fixed(0, 1);
    x.file(0, "ab");
    Due.same(x.jumps(0), -1);
    x.keep(0, 0);
    x.drop(0);
    Due.same(x.jumps(0), -1);
    for (int f : Used.NO_FILES) {
      Due.same(x.jumps(f), -1);
    }
  }

  @Sentence("Promise 22: Number k of what is KEPT of a FILE")
  static void number() {
    Used x = new Used();
    x.fixed(0, 1);
    x.file(0, "aba");
    x.keep(0, 0);
    Due.same(x.number(0, 0), 1);
    Due.same(x.number(0, 1), 2);
    Due.same(x.number(0, 2), 1);
    x.file(7, "b".repeat(600));
    x.keep(0, 7);
    Due.same(x.number(7, 0), 2);
    Due.same(x.number(7, 599), 2);
    Due.same(x.number(7, 600), -1);
    Due.same(x.piece(2, 1), 601);
  }

  @Sentence("Promise 22: NONE when there is none such. (No such number)")
  static void numberNoneSuch() {
    Used x = new Used();
    x.fixed(0, 1);
    x.file(0, "aba");
    x.keep(0, 0);
    for (int k : new int[] {3, 4, -1, 599, 600, MIN, MAX}) {
      Due.same(x.number(0, k), -1);
    }
    x.file(0, "a");
    x.keep(0, 0);
    Due.same(x.number(0, 1), -1);
    x.file(0, "");
    x.keep(0, 0);
    Due.same(x.number(0, 0), -1);
  }

  @Sentence("Promise 22: NONE when there is none such. (Nothing KEPT, no such FILE)")
  static void numberOfNothing() {
    Used x = new Used();
    x.fixed(0, 1);
    x.file(0, "ab");
    Due.same(x.number(0, 0), -1);
    x.keep(0, 0);
    x.drop(0);
    Due.same(x.number(0, 0), -1);
    Due.same(x.number(0, -1), -1);
    for (int f : Used.NO_FILES) {
      Due.same(x.number(f, 0), -1);
    }
  }
}
