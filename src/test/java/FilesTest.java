/** Promises 1 to 7: a new object, the tape and the FILES. */
public final class FilesTest {
  private static final int MIN = Integer.MIN_VALUE;
  private static final int MAX = Integer.MAX_VALUE;
  private static final int ZZZZ = 0x7a7a7a7a;

  public static void main(String[] args) throws IllegalAccessException {
    Due.run(FilesTest.class);
  }

  @Sentence("What it is: An object is used for at most 512 calls after it has been made")
  static void theLastOf512Calls() {
    Used x = new Used();
    while (x.callsLeft() > 2) {
      Due.same(x.feed(1, 2, 3, 4, 5), 20);
      Due.yes(x.end(0));
    }
    Due.same(x.sow(0, 1, 1, 256), 1);
    Due.same(x.at(0, 0), 126);
    Due.same(x.callsLeft(), 0);
  }

  @Sentence("The constants: There is none; it is refused.")
  static void none() {
    Due.same(CutStore.NONE, -1);
  }

  @Sentence("Promise 1: Empty FILES")
  static void newFiles() {
    Used x = new Used();
    for (int f = 0; f < 8; f++) {
      Due.same(x.at(f, 0), -1);
      Due.same(x.edit(f, 0, 0), 0);
    }
  }

  @Sentence("Promise 1: Empty FILES (and nothing on the tape)")
  static void newTape() {
    Used x = new Used();
    Due.no(x.end(1));
    Due.same(x.feed(0, 0, 0, 0, 0), 20);
  }

  @Sentence("Promise 1: no RULES")
  static void newRules() {
    Used x = new Used();
    x.file(0, "abc");
    for (int r = 0; r < 6; r++) {
      Due.same(x.sum(r, 0, 0), -1);
      Due.same(x.cuts(r, 0), -1);
      Due.same(x.cut(r, 0, 0), -1);
      Due.same(x.agree(r, 0, 0), -1);
      Due.same(x.sent(r, 0, 0), -1);
      Due.same(x.cost(r, 1), -1);
      Due.same(x.keep(r, 0), -1);
    }
    Due.same(x.best(1), -1);
  }

  @Sentence("Promise 1: an empty STORE")
  static void newStore() {
    Used x = new Used();
    for (int f = 0; f < 8; f++) {
      Due.same(x.drop(f), -1);
      Due.same(x.bring(f), -1);
      Due.same(x.jumps(f), -1);
      Due.same(x.number(f, 0), -1);
    }
    for (int what = 0; what < 6; what++) {
      Due.same(x.count(what), 0);
    }
    for (int what = 0; what < 3; what++) {
      Due.same(x.piece(1, what), -1);
      Due.same(x.pair(0, what), -1);
    }
    Due.same(x.supers(), 0);
  }

  @Sentence("Promise 1: Empty FILES, no RULES, an empty STORE (whatever another object holds)")
  static void newBesideAnother() {
    Used other = new Used();
    other.file(0, "abab");
    other.fixed(0, 1);
    other.keep(0, 0);
    other.supers();
    other.prices(50, 50);
    other.tape("left");
    Used x = new Used();
    Due.no(x.end(1));
    Due.same(x.at(0, 0), -1);
    Due.same(x.best(1), -1);
    Due.same(x.pair(0, 0), -1);
    x.dueStore(0, 0, 0, 0);
    x.file(0, "z");
    x.fixed(0, 200);
    Due.same(x.keep(0, 0), 1);
    Due.same(x.count(3), 1 + 8 + 2);
    other.dueText(0, "abab");
    other.dueCuts(0, 0, 0, 1, 2, 3, 4);
    other.dueStore(2, 2, 4, 1);
  }

  @Sentence("Promise 2: Twenty bytes come behind those on the tape, of each number the highest first")
  static void feedOrder() {
    Used x = new Used();
    x.feed(0x01020304, 0x05060708, 0x090a0b0c, 0x0d0e0f10, 0x11121314);
    x.feed(0x15161718, 0x191a1b1c, 0x1d1e1f20, 0x21222324, 0x25262728);
    Due.same(x.edit(0, 0, 0), 40);
    for (int i = 0; i < 40; i++) {
      Due.same(x.at(0, i), i + 1);
    }
  }

  @Sentence("Promise 2: of each number the highest first (of those below 0 too)")
  static void feedExtremes() {
    Used x = new Used();
    x.feed(MIN, MAX, -1, 0x80ff7f00, -2);
    x.edit(0, 0, 0);
    int[] want = {128, 0, 0, 0, 127, 255, 255, 255, 255, 255, 255, 255, 128, 255, 127, 0, 255, 255, 255, 254};
    for (int i = 0; i < 20; i++) {
      Due.same(x.at(0, i), want[i]);
    }
  }

  @Sentence("Promise 2: how many there are")
  static void feedToJust400() {
    Used x = new Used();
    for (int n = 20; n <= 400; n += 20) {
      Due.same(x.feed(n, n, n, n, n), n);
    }
    Due.same(x.edit(0, 0, 0), 400);
    Due.same(x.at(0, 399), 400 & 255);
  }

  @Sentence("Promise 2: NONE, doing nothing, if there would be more than 400.")
  static void feedBeyond400() {
    Used x = new Used();
    for (int n = 20; n <= 400; n += 20) {
      x.feed(n, n, n, n, n);
    }
    Due.same(x.feed(ZZZZ, ZZZZ, ZZZZ, ZZZZ, ZZZZ), -1);
    Due.no(x.end(401));
    Due.yes(x.end(400));
    Due.same(x.edit(0, 0, 0), 400);
    Due.same(x.at(0, 399), 400 & 255);
    Due.same(x.at(0, 380), 0);
    Due.same(x.at(0, 0), 0);
    Due.same(x.at(0, 3), 20);
  }

  @Sentence("Promise 2: if there would be more than 400 (401, by a tape of 381)")
  static void feedTo401() {
    Used x = new Used();
    for (int n = 20; n <= 400; n += 20) {
      x.feed(0, 0, 0, 0, 0);
    }
    x.end(381);
    Due.same(x.feed(ZZZZ, ZZZZ, ZZZZ, ZZZZ, ZZZZ), -1);
    Due.no(x.end(382));
    Due.yes(x.end(380));
    Due.same(x.feed(ZZZZ, ZZZZ, ZZZZ, ZZZZ, ZZZZ), 400);
    x.edit(0, 0, 0);
    Due.same(x.at(0, 379), 0);
    Due.same(x.at(0, 380), 'z');
    Due.same(x.at(0, 399), 'z');
  }

  @Sentence("Promise 3: The tape has its first n bytes alone: true")
  static void endKeepsTheFirst() {
    Used x = new Used();
    x.feed(0x61626364, 0x65666768, ZZZZ, ZZZZ, ZZZZ);
    Due.yes(x.end(5));
    Due.no(x.end(6));
    Due.same(x.feed(0x41424344, 0, 0, 0, 0), 25);
    Due.yes(x.end(7));
    x.edit(0, 0, 0);
    x.dueText(0, "abcdeAB");
  }

  @Sentence("Promise 3: The tape has its first n bytes alone (all that it has, or none)")
  static void endAllOrNone() {
    Used x = new Used();
    Due.yes(x.end(0));
    x.feed(ZZZZ, ZZZZ, ZZZZ, ZZZZ, ZZZZ);
    Due.yes(x.end(20));
    Due.yes(x.end(20));
    Due.yes(x.end(0));
    Due.no(x.end(1));
    Due.same(x.edit(0, 0, 0), 0);
  }

  @Sentence("Promise 3: false, doing nothing, if it has not so many")
  static void endBeyondTheTape() {
    Used x = new Used();
    Due.no(x.end(1));
    x.feed(0x61626364, 0, 0, 0, 0);
    Due.no(x.end(21));
    Due.no(x.end(400));
    Due.no(x.end(MAX));
    Due.yes(x.end(4));
    Due.no(x.end(5));
    Due.no(x.end(20));
    Due.same(x.edit(0, 0, 0), 4);
    x.dueText(0, "abcd");
  }

  @Sentence("Promise 3: or n is below 0")
  static void endBelow0() {
    Used x = new Used();
    Due.no(x.end(-1));
    x.tape("abcd");
    Due.no(x.end(-1));
    Due.no(x.end(-4));
    Due.no(x.end(MIN));
    Due.same(x.edit(0, 0, 0), 4);
    x.dueText(0, "abcd");
  }

  @Sentence("Promise 4: In a FILE, from a place (from 0 up to its length) on")
  static void editAtTheEdges() {
    Used x = new Used();
    x.file(7, "abc");
    x.tape("XY");
    Due.same(x.edit(7, 0, 0), 5);
    x.tape("Z");
    Due.same(x.edit(7, 5, 0), 6);
    x.dueText(7, "XYabcZ");
    Due.same(x.at(6, 0), -1);
  }

  @Sentence("Promise 4: so many bytes give way to the tape")
  static void editGivesWay() {
    Used x = new Used();
    x.file(3, "abcdefgh");
    x.tape("XY");
    Due.same(x.edit(3, 2, 1), 9);
    x.dueText(3, "abXYdefgh");
    x.tape("Q");
    Due.same(x.edit(3, 4, 4), 6);
    x.dueText(3, "abXYQh");
    x.tape("12");
    Due.same(x.edit(3, 4, 2), 6);
    x.dueText(3, "abXY12");
    x.tape("!?");
    Due.same(x.edit(3, 0, 6), 2);
    x.dueText(3, "!?");
  }

  @Sentence("Promise 4: so many bytes give way to the tape (to one without bytes)")
  static void editTakesAway() {
    Used x = new Used();
    x.file(0, "abcd");
    Due.same(x.edit(0, 1, 2), 2);
    x.dueText(0, "ad");
    Due.same(x.edit(0, 2, 0), 2);
    Due.same(x.edit(0, 0, 2), 0);
    Due.same(x.at(0, 0), -1);
    Due.same(x.edit(0, 0, 0), 0);
  }

  @Sentence("Promise 4: (it goes)")
  static void editTakesTheTape() {
    Used x = new Used();
    x.tape("abc");
    Due.same(x.edit(0, 0, 0), 3);
    Due.no(x.end(1));
    Due.same(x.edit(0, 3, 0), 3);
    Due.same(x.edit(1, 0, 0), 0);
    Due.same(x.feed(ZZZZ, ZZZZ, ZZZZ, ZZZZ, ZZZZ), 20);
    x.edit(0, 0, 3);
    Due.same(x.at(0, 0), 'z');
  }

  @Sentence("Promise 4: how many bytes it has")
  static void editTellsTheLength() {
    Used x = new Used();
    x.tape("a".repeat(400));
    Due.same(x.edit(0, 0, 0), 400);
    x.tape("b".repeat(200));
    Due.same(x.edit(0, 400, 0), 600);
    Due.same(x.edit(0, 0, 0), 600);
    Due.same(x.edit(0, 600, 0), 600);
    Due.same(x.edit(0, 0, 599), 1);
    x.dueText(0, "b");
    Due.same(x.edit(0, 0, 1), 0);
  }

  @Sentence("Promise 4: -1 no such FILE")
  static void editNoSuchFile() {
    Used x = new Used();
    x.tape("XY");
    for (int f : Used.NO_FILES) {
      Due.same(x.edit(f, 0, 0), -1);
    }
    for (int f = 0; f < 8; f++) {
      Due.same(x.at(f, 0), -1);
    }
  }

  @Sentence("Promise 4: -1 no such FILE, place")
  static void editNoSuchPlace() {
    Used x = new Used();
    x.file(0, "abc");
    x.file(1, "defghi");
    x.tape("XY");
    for (int place : new int[] {-1, 4, 600, MIN, MAX}) {
      Due.same(x.edit(0, place, 0), -1);
    }
    Due.same(x.edit(2, 1, 0), -1);
    Due.same(x.edit(0, -1, 1), -1);
    Due.same(x.edit(0, 4, -1), -1);
    Due.same(x.edit(0, MIN, MIN), -1);
    x.dueText(0, "abc");
    x.dueText(1, "defghi");
  }

  @Sentence("Promise 4: or not so many bytes there")
  static void editNotSoMany() {
    Used x = new Used();
    x.file(0, "abc");
    x.tape("XY");
    int[][] wrong = {{0, 4}, {2, 2}, {3, 1}, {1, 3}, {0, -1}, {3, -1}, {1, MAX}, {3, MAX}, {0, MIN}, {MAX, MAX}};
    for (int[] w : wrong) {
      Due.same(x.edit(0, w[0], w[1]), -1);
    }
    Due.same(x.edit(1, 0, 1), -1);
    x.dueText(0, "abc");
  }

  @Sentence("Promise 4: -2 there would be more than 600")
  static void editBeyond600() {
    Used x = new Used();
    x.fullFile(0);
    x.tape("X");
    Due.same(x.edit(0, 600, 0), -2);
    Due.same(x.edit(0, 0, 0), -2);
    Due.same(x.at(0, 600), -1);
    Due.same(x.edit(0, 599, 1), 600);
    Due.same(x.at(0, 599), 'X');
    x.tape("YZ");
    Due.same(x.edit(0, 0, 1), -2);
    Due.same(x.edit(0, 0, 2), 600);
    Due.same(x.at(0, 1), 'Z');
    Due.same(x.at(0, 599), 'X');
  }

  @Sentence("Promise 4: -2 there would be more than 600 (just 600 can be, 601 can't)")
  static void editToJust600() {
    Used x = new Used();
    x.fullFile(0);
    x.edit(0, 0, 2);
    x.tape("XYZ");
    Due.same(x.edit(0, 598, 0), -2);
    x.end(2);
    Due.same(x.edit(0, 598, 0), 600);
    Due.same(x.at(0, 599), 'Y');
  }

  @Sentence("Promise 4: -1 no such FILE, place, or not so many bytes there; -2 there would be more than 600 (both)")
  static void editBothWrong() {
    Used x = new Used();
    x.fullFile(0);
    x.tape("X");
    Due.same(x.edit(0, 601, 0), -1);
    Due.same(x.edit(0, 600, 1), -1);
    Due.same(x.edit(0, -1, 0), -1);
    Due.same(x.edit(0, 0, -1), -1);
  }

  @Sentence("Promise 4: (the tape stays in both cases)")
  static void editRefusedLeavesTheTape() {
    Used x = new Used();
    x.tape("XY");
    Due.same(x.edit(0, 1, 0), -1);
    Due.same(x.edit(8, 0, 0), -1);
    Due.same(x.edit(0, 0, 1), -1);
    Due.same(x.edit(0, 0, 0), 2);
    x.dueText(0, "XY");
    x.fullFile(1);
    x.tape("PQ");
    Due.same(x.edit(1, 0, 0), -2);
    Due.same(x.edit(2, 0, 0), 2);
    x.dueText(2, "PQ");
  }

  @Sentence("Promise 5: n (1 .. 200) bytes more at a FILE's end")
  static void sowAtTheEnd() {
    Used x = new Used();
    x.file(7, "ab");
    x.tape("tape");
    Due.same(x.sow(7, 1, 1, 256), 3);
    Due.same(x.at(7, 1), 'b');
    Due.same(x.at(7, 2), 126);
    Due.same(x.sow(7, 200, 1, 256), 203);
    Due.same(x.at(7, 3), 126);
    Due.same(x.at(7, 4), 176);
    Due.same(x.at(7, 202) == -1 ? 0 : 1, 1);
    Due.same(x.at(7, 203), -1);
    Due.same(x.at(6, 0), -1);
    Due.same(x.edit(0, 0, 0), 4);
  }

  @Sentence("Promise 5: n (1 .. 200) bytes more (others can't be)")
  static void sowSoMany() {
    Used x = new Used();
    x.file(0, "ab");
    for (int n : new int[] {0, -1, 201, 256, 600, MIN, MAX}) {
      Due.same(x.sow(0, n, 9, 7), -1);
    }
    x.dueText(0, "ab");
  }

  @Sentence("Promise 5: how many there are")
  static void sowTellsTheLength() {
    Used x = new Used();
    x.file(0, "abc");
    Due.same(x.sow(0, 1, 1, 1), 4);
    Due.same(x.sow(0, 200, 1, 1), 204);
    Due.same(x.sow(1, 200, 1, 1), 200);
    Due.same(x.edit(0, 0, 0), 204);
  }

  @Sentence("Promise 5: for each g becomes 1103515245 g + 12345 (an int, it wraps; seed at first)")
  static void sowWraps() {
    int[] seeds = {1, 0, -1, MAX, MIN, 7};
    int[][] want = {{126, 176, 228, 155}, {48, 22, 39, 28}, {225, 124, 107, 157}, {225, 124, 107, 157},
      {48, 22, 39, 28}, {85, 79, 80, 149}};
    for (int s = 0; s < seeds.length; s++) {
      Used x = new Used();
      x.sow(0, 4, seeds[s], 256);
      for (int i = 0; i < 4; i++) {
        Due.same(x.at(0, i), want[s][i]);
      }
    }
  }

  @Sentence("Promise 5: the byte is (g >>> 8) % spread (1 .. 256)")
  static void sowSpread() {
    int[] seeds = {1, 0, -1, MAX, MIN, 7};
    int[][] want = {{54, 32, 56, 3}, {48, 38, 75, 88}, {57, 28, 79, 73}, {49, 36, 87, 65}, {56, 30, 67, 80},
      {77, 15, 88, 93}};
    for (int s = 0; s < seeds.length; s++) {
      Used x = new Used();
      x.sow(0, 4, seeds[s], 100);
      for (int i = 0; i < 4; i++) {
        Due.same(x.at(0, i), want[s][i]);
      }
    }
  }

  @Sentence("Promise 5: % spread (1 .. 256) (the least, the most, and others that can't be)")
  static void sowSpreads() {
    Used x = new Used();
    Due.same(x.sow(0, 2, 1, 1), 2);
    Due.same(x.sow(0, 2, 1, 256), 4);
    Due.same(x.sow(0, 2, 1, 255), 6);
    x.dueText(0, "\u0000\u0000\u007e\u00b0\u0086\u00c5");
    for (int spread : new int[] {0, -1, 257, 512, MIN, MAX}) {
      Due.same(x.sow(0, 1, 1, spread), -1);
    }
    Due.same(x.at(0, 6), -1);
  }

  @Sentence("Promise 5: NONE, doing nothing, when something can't be")
  static void sowNoSuchFile() {
    Used x = new Used();
    for (int f : Used.NO_FILES) {
      Due.same(x.sow(f, 1, 1, 1), -1);
    }
    for (int f = 0; f < 8; f++) {
      Due.same(x.at(f, 0), -1);
    }
  }

  @Sentence("Promise 5: or there would be more than 600.")
  static void sowBeyond600() {
    Used x = new Used();
    x.sow(0, 200, 5, 7);
    x.sow(0, 200, 5, 7);
    Due.same(x.sow(0, 199, 5, 7), 599);
    Due.same(x.sow(0, 2, 5, 7), -1);
    Due.same(x.at(0, 599), -1);
    Due.same(x.sow(0, 1, 5, 7), 600);
    Due.same(x.sow(0, 1, 5, 7), -1);
    Due.same(x.at(0, 600), -1);
    Due.same(x.at(1, 0), -1);
  }

  @Sentence("Promise 6: FILE to becomes as FILE from is: how many bytes")
  static void copy() {
    Used x = new Used();
    x.file(0, "abc");
    x.file(7, "longer than that");
    x.tape("Q");
    Due.same(x.copy(0, 7), 3);
    x.dueText(7, "abc");
    Due.same(x.edit(7, 0, 1), 3);
    x.dueText(7, "Qbc");
    x.dueText(0, "abc");
  }

  @Sentence("Promise 6: FILE to becomes as FILE from is (empty)")
  static void copyEmpty() {
    Used x = new Used();
    x.file(1, "abc");
    Due.same(x.copy(0, 1), 0);
    Due.same(x.at(1, 0), -1);
    Due.same(x.copy(0, 1), 0);
  }

  @Sentence("Promise 6: FILE to becomes as FILE from is (full)")
  static void copyFull() {
    Used x = new Used();
    x.fullFile(3);
    Due.same(x.copy(3, 4), 600);
    x.fixed(0, 1);
    Due.same(x.agree(0, 3, 4), 600);
    Due.same(x.at(5, 0), -1);
    Due.same(x.at(2, 0), -1);
    Due.same(x.sow(4, 1, 1, 1), -1);
  }

  @Sentence("Promise 6: FILE to becomes as FILE from is (itself)")
  static void copyOntoItself() {
    Used x = new Used();
    x.file(5, "abc");
    Due.same(x.copy(5, 5), 3);
    x.dueText(5, "abc");
  }

  @Sentence("Promise 6: NONE when there are no such two.")
  static void copyNoSuchTwo() {
    Used x = new Used();
    x.file(0, "abc");
    x.file(7, "xyz");
    for (int f : Used.NO_FILES) {
      Due.same(x.copy(f, 0), -1);
      Due.same(x.copy(0, f), -1);
      Due.same(x.copy(f, f), -1);
    }
    x.dueText(0, "abc");
    x.dueText(7, "xyz");
  }

  @Sentence("Terms I: FILES 0 .. 7 are rows of up to 600 bytes (0 .. 255).")
  static void allFiles() {
    Used x = new Used();
    for (int f = 0; f < 8; f++) {
      x.fullFile(f);
      x.tape("" + (char) (f * 36) + (char) (255 - f));
      Due.same(x.edit(f, 0, 2), 600);
      x.tape("" + (char) (f + 128));
      Due.same(x.edit(f, 599, 1), 600);
    }
    for (int f = 0; f < 8; f++) {
      Due.same(x.at(f, 0), f * 36);
      Due.same(x.at(f, 1), 255 - f);
      Due.same(x.at(f, 599), f + 128);
    }
  }

  @Sentence("Promise 7: Byte i of a FILE")
  static void at() {
    Used x = new Used();
    x.file(2, "a\u00ff\u0000\u0080\u007f");
    int[] want = {97, 255, 0, 128, 127};
    for (int i = 0; i < 5; i++) {
      Due.same(x.at(2, i), want[i]);
    }
  }

  @Sentence("Promise 7: NONE when there is none such.")
  static void atNoneSuch() {
    Used x = new Used();
    x.file(2, "abcde");
    x.file(3, "fgh");
    x.edit(2, 4, 1);
    for (int i : new int[] {4, 5, -1, 599, 600, MIN, MAX}) {
      Due.same(x.at(2, i), -1);
    }
    Due.same(x.at(1, 0), -1);
    for (int f : Used.NO_FILES) {
      Due.same(x.at(f, 0), -1);
    }
  }
}
