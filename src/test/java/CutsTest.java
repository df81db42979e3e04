/** Terms I: how the RULES cut a FILE into PIECES, and the SUM. */
public final class CutsTest {
  public static void main(String[] args) throws IllegalAccessException {
    Due.run(CutsTest.class);
  }

  @Sentence("Terms I: (none of a FILE without bytes)")
  static void noBytes() {
    Used x = new Used();
    x.fixed(0, 1);
    x.rolling(1, false, 1, 1, 1, 0, 0);
    x.rolling(2, true, 1, 1, 1, 0, 0);
    x.told(3, 1, 1, 0);
    for (int r = 0; r < 4; r++) {
      x.dueCuts(r, 0, 0);
    }
    x.file(0, "abc");
    x.edit(0, 0, 3);
    for (int r = 0; r < 4; r++) {
      x.dueCuts(r, 0, 0);
    }
  }

  @Sentence("Terms I: KIND 0 FIXED: a PIECE has size (1 .. 200) bytes.")
  static void fixed() {
    Used x = new Used();
    x.file(0, "abcdef");
    x.fixed(0, 3);
    x.dueCuts(0, 0, 0, 3, 6);
    x.fixed(0, 1);
    x.dueCuts(0, 0, 0, 1, 2, 3, 4, 5, 6);
    x.fixed(0, 6);
    x.dueCuts(0, 0, 0, 6);
    x.fullFile(1);
    x.fixed(0, 200);
    x.dueCuts(0, 1, 0, 200, 400, 600);
  }

  @Sentence("Terms I: with the bytes of the window up to that place (of the FILE, fewer at its beginning)")
  static void sumAtTheBeginning() {
    Used x = new Used();
    x.file(0, "\u0000\u0001\u0002\u0003\u00ff");
    x.rolling(0, false, 1, 200, 3, 0, 0);
    Due.same(x.sum(0, 0, 0), 1);
    Due.same(x.sum(0, 0, 1), 2 + 31);
    Due.same(x.sum(0, 0, 2), 3 + 31 * 2 + 961);
    Due.same(x.sum(0, 0, 3), 4 + 31 * 3 + 961 * 2);
    Due.same(x.sum(0, 0, 4), 256 + 31 * 4 + 961 * 3);
  }

  @Sentence("Terms I: from the latest one on: each and 1, times 31, 31 times 31, .. (the latest one times 1)")
  static void sumFromTheLatest() {
    Used x = new Used();
    x.rolling(0, false, 1, 200, 3, 0, 0);
    x.file(0, "\u0001\u0000\u0000\u0000\u0000");
    Due.same(x.sum(0, 0, 0), 2);
    Due.same(x.sum(0, 0, 1), 1 + 31 * 2);
    Due.same(x.sum(0, 0, 2), 1 + 31 + 961 * 2);
    Due.same(x.sum(0, 0, 3), 1 + 31 + 961);
    Due.same(x.sum(0, 0, 4), 1 + 31 + 961);
  }

  @Sentence("Terms I: window (1 .. 16) (the least and the most)")
  static void sumByTheEdgesOfTheWindow() {
    Used x = new Used();
    StringBuilder text = new StringBuilder();
    for (char c = 0; c < 20; c++) {
      text.append(c);
    }
    x.file(0, text.toString());
    x.rolling(0, true, 1, 200, 1, 8, 9);
    Due.same(x.sum(0, 0, 0), 1);
    Due.same(x.sum(0, 0, 19), 20);
    x.rolling(0, false, 1, 2, 16, 8, 255);
    int[] want = {28680, 37128, 45576, 54024, 62472, 5384};
    for (int i = 14; i < 20; i++) {
      Due.same(x.sum(0, 0, i), want[i - 14]);
    }
    x.rolling(0, false, 1, 2, 15, 8, 255);
    Due.same(x.sum(0, 0, 14), 28680);
    Due.same(x.sum(0, 0, 15) == 37128 ? 1 : 0, 0);
  }

  @Sentence("Terms I: added up, modulo 65536")
  static void sumModulo() {
    Used x = new Used();
    x.file(0, "\u00ff".repeat(20));
    x.rolling(0, false, 1, 200, 16, 0, 0);
    int[] want = {256, 8192, 57600, 16384, 49408, 24576, 41216, 32768, 33024, 40960, 24832, 49152, 16640, 57344, 8448,
      0, 0, 0, 0, 0};
    for (int i = 0; i < 20; i++) {
      Due.same(x.sum(0, 0, i), want[i]);
    }
    x.rolling(0, false, 1, 200, 3, 0, 0);
    Due.same(x.sum(0, 0, 19), 57600);
  }

  @Sentence("Terms I: SUM at a place of a FILE (of the FILE, not of the PIECE)")
  static void theWindowReachesOverTheCut() {
    Used x = new Used();
    // By a window of 2 the SUM at 2 is 1 + 31 * 16 = 497, its SIGN 31.
    x.file(0, "\u0000\u000f\u0000\u0000");
    x.rolling(0, false, 1, 2, 2, 5, 31);
    Due.same(x.sum(0, 0, 2), 497);
    x.dueCuts(0, 0, 0, 2, 3, 4);
  }

  @Sentence("Terms I: its bits, from bit 4 on, are its SIGN")
  static void signFromBit4() {
    Used x = new Used();
    // SUMS 15, 16, 31, 32.
    x.file(0, "\u000e\u000f\u001e\u001f");
    x.rolling(0, false, 1, 200, 1, 8, 1);
    x.dueCuts(0, 0, 0, 2, 3, 4);
    x.rolling(0, false, 1, 200, 1, 8, 0);
    x.dueCuts(0, 0, 0, 1, 4);
    x.rolling(0, false, 1, 200, 1, 8, 2);
    x.dueCuts(0, 0, 0, 4);
    x.file(0, "\u001f\u000e");
    x.dueCuts(0, 0, 0, 1, 2);
  }

  @Sentence("Terms I: and the SIGN is mark (modulo 2 to the bits)")
  static void signModulo() {
    Used x = new Used();
    x.signs(0, 0, 3, 4, 7, 8);
    x.rolling(0, false, 1, 200, 1, 2, 3);
    x.dueCuts(0, 0, 0, 2, 4, 5);
    x.rolling(0, false, 1, 200, 1, 2, 255);
    x.dueCuts(0, 0, 0, 2, 4, 5);
    x.rolling(0, false, 1, 200, 1, 3, 3);
    x.dueCuts(0, 0, 0, 2, 5);
    x.rolling(0, false, 1, 200, 1, 3, 12);
    x.dueCuts(0, 0, 0, 3, 5);
    x.rolling(0, false, 1, 200, 1, 4, 8);
    x.dueCuts(0, 0, 0, 5);
    x.rolling(0, false, 1, 200, 1, 1, 254);
    x.dueCuts(0, 0, 0, 1, 3, 5);
  }

  @Sentence("Terms I: bits (0 .. 8) (none: every SIGN is mark)")
  static void noBits() {
    Used x = new Used();
    x.signs(0, 0, 5, 15, 9, 1);
    x.rolling(0, false, 2, 200, 1, 0, 77);
    x.dueCuts(0, 0, 0, 2, 4, 5);
    x.rolling(0, true, 2, 200, 1, 0, 77);
    x.dueCuts(0, 0, 0, 2, 4, 5);
  }

  @Sentence("Terms I: bits (0 .. 8) (8: a SIGN of 12 bits is held against mark by 8)")
  static void eightBits() {
    Used x = new Used();
    // By a window of 3: SUMS 256, 8192, 57600, 57600, SIGNS 16, 512, 3600, 3600, by 8 bits 16, 0, 16, 16.
    x.file(0, "\u00ff\u00ff\u00ff\u00ff");
    x.rolling(0, false, 1, 200, 3, 8, 0);
    x.dueCuts(0, 0, 0, 2, 4);
    x.rolling(0, false, 1, 200, 3, 8, 16);
    x.dueCuts(0, 0, 0, 1, 3, 4);
    x.rolling(0, false, 1, 200, 3, 5, 16);
    x.dueCuts(0, 0, 0, 1, 3, 4);
    // By a window of 1 the SIGN of 255 is 16, which is 0 by 4 bits.
    x.rolling(0, false, 1, 200, 1, 4, 0);
    x.dueCuts(0, 0, 0, 1, 2, 3, 4);
    x.rolling(0, false, 1, 200, 1, 5, 0);
    x.dueCuts(0, 0, 0, 4);
    // 8 bits tell a SIGN of 128 from 0: by a window of 2 the SUM at 1 is 2079 = 31 * 67 + 2, SIGN 129.
    x.file(0, "\u0042\u0001");
    x.rolling(0, false, 1, 200, 2, 8, 129);
    Due.same(x.sum(0, 0, 1), 2079);
    x.dueCuts(0, 0, 0, 2);
    x.file(0, "\u0042\u0001z");
    x.dueCuts(0, 0, 0, 2, 3);
    x.rolling(0, false, 1, 200, 2, 8, 1);
    x.dueCuts(0, 0, 0, 3);
  }

  @Sentence("Terms I: A PIECE ends behind the first byte at which it has least bytes or more")
  static void rollingLeast() {
    Used x = new Used();
    x.signs(0, 0, 3, 0, 0, 3, 3, 0, 0, 0, 0);
    x.rolling(0, false, 1, 200, 1, 2, 3);
    x.dueCuts(0, 0, 0, 2, 5, 6, 10);
    x.rolling(0, false, 2, 200, 1, 2, 3);
    x.dueCuts(0, 0, 0, 2, 5, 10);
    x.rolling(0, false, 3, 200, 1, 2, 3);
    x.dueCuts(0, 0, 0, 5, 10);
    x.rolling(0, false, 6, 200, 1, 2, 3);
    x.dueCuts(0, 0, 0, 6, 10);
    x.rolling(0, false, 7, 200, 1, 2, 3);
    x.dueCuts(0, 0, 0, 10);
  }

  @Sentence("Terms I: or most bytes.")
  static void rollingMost() {
    Used x = new Used();
    x.signs(0, 0, 3, 0, 0, 0, 0, 3, 0, 0);
    x.rolling(0, false, 1, 4, 1, 2, 3);
    x.dueCuts(0, 0, 0, 2, 6, 7, 9);
    x.rolling(0, false, 1, 5, 1, 2, 3);
    x.dueCuts(0, 0, 0, 2, 7, 9);
    x.rolling(0, false, 3, 3, 1, 2, 3);
    x.dueCuts(0, 0, 0, 3, 6, 9);
    x.rolling(0, false, 1, 1, 1, 2, 3);
    x.dueCuts(0, 0, 0, 1, 2, 3, 4, 5, 6, 7, 8, 9);
    x.fullFile(1);
    x.rolling(0, false, 200, 200, 1, 8, 255);
    x.dueCuts(0, 1, 0, 200, 400, 600);
  }

  @Sentence("Terms I: KIND 2 TWO: as ROLLING")
  static void twoAsRolling() {
    Used x = new Used();
    x.signs(0, 1, 1, 0, 3, 1, 3, 0, 0);
    x.rolling(0, true, 1, 4, 1, 2, 3);
    x.dueCuts(0, 0, 0, 4, 6, 8);
    x.rolling(0, true, 1, 200, 1, 2, 3);
    x.dueCuts(0, 0, 0, 4, 6, 8);
    x.rolling(0, true, 5, 6, 1, 2, 3);
    x.dueCuts(0, 0, 0, 6, 8);
    x.rolling(0, true, 5, 6, 1, 2, 255);
    x.dueCuts(0, 0, 0, 6, 8);
  }

  @Sentence("Terms I: it ends behind the last byte at which it had least bytes or more and the SIGN, by one bit less")
  static void twoSpare() {
    Used x = new Used();
    x.signs(0, 0, 1, 0, 1, 0, 0, 3, 0, 0, 0, 0, 0);
    x.rolling(0, true, 1, 6, 1, 2, 3);
    x.dueCuts(0, 0, 0, 4, 7, 12);
    x.rolling(0, true, 1, 4, 1, 2, 3);
    x.dueCuts(0, 0, 0, 4, 7, 11, 12);
    x.rolling(0, false, 1, 6, 1, 2, 3);
    x.dueCuts(0, 0, 0, 6, 7, 12);
  }

  @Sentence("Terms I: at which it had least bytes or more (at least, and one below it)")
  static void twoSpareAtLeast() {
    Used x = new Used();
    x.signs(0, 0, 0, 0, 1, 0, 0, 0, 0, 0, 0);
    x.rolling(0, true, 4, 6, 1, 2, 3);
    x.dueCuts(0, 0, 0, 4, 10);
    x.rolling(0, true, 5, 6, 1, 2, 3);
    x.dueCuts(0, 0, 0, 6, 10);
  }

  @Sentence("Terms I: was mark by one bit less")
  static void twoSpareMark() {
    Used x = new Used();
    // By 3 bits mark is 6, by 2 bits 2: the SIGNS 2 and 10 are spare ones, 14 is mark itself.
    x.signs(0, 2, 4, 10, 4, 0, 0);
    x.rolling(0, true, 1, 5, 1, 3, 6);
    x.dueCuts(0, 0, 0, 3, 6);
    x.signs(0, 2, 4, 4, 14, 0, 0);
    x.dueCuts(0, 0, 0, 4, 6);
    x.rolling(0, true, 1, 3, 1, 3, 6);
    x.dueCuts(0, 0, 0, 1, 4, 6);
    // A SIGN of 130 is 2 by 7 bits: a spare one where mark is 2, though not by 8 bits.
    x.file(1, "\u0041\u0021z");
    x.rolling(1, true, 1, 3, 2, 8, 0);
    Due.same(x.sum(1, 1, 1), 2080);
    x.dueCuts(1, 1, 0, 3);
    x.rolling(1, true, 1, 3, 2, 8, 2);
    x.dueCuts(1, 1, 0, 2, 3);
  }

  @Sentence("Terms I: by one bit less (0 at least)")
  static void twoByOneBitOrNone() {
    Used x = new Used();
    x.signs(0, 0, 2, 0, 2, 4, 0, 0);
    x.rolling(0, true, 1, 3, 1, 1, 1);
    x.dueCuts(0, 0, 0, 3, 6, 7);
    x.rolling(0, true, 3, 5, 1, 0, 1);
    x.dueCuts(0, 0, 0, 3, 6, 7);
  }

  @Sentence("Terms I: if there was none, with most bytes.")
  static void twoNoneSpare() {
    Used x = new Used();
    x.signs(0, 0, 2, 0, 2, 4, 0, 0);
    x.rolling(0, true, 1, 3, 1, 2, 3);
    x.dueCuts(0, 0, 0, 3, 6, 7);
    x.rolling(0, true, 3, 3, 1, 8, 3);
    x.dueCuts(0, 0, 0, 3, 6, 7);
  }

  @Sentence("Terms I: KIND 3 TOLD: a PIECE ends behind the first byte that is mark (0 .. 255) and at which it has least bytes")
  static void told() {
    Used x = new Used();
    x.file(0, "a,b,,cdefgh,");
    x.told(0, 1, 200, ',');
    x.dueCuts(0, 0, 0, 2, 4, 5, 12);
    x.told(0, 2, 200, ',');
    x.dueCuts(0, 0, 0, 2, 4, 12);
    x.told(0, 3, 200, ',');
    x.dueCuts(0, 0, 0, 4, 12);
    x.told(0, 1, 200, 'Q');
    x.dueCuts(0, 0, 0, 12);
  }

  @Sentence("Terms I: or with most bytes.")
  static void toldMost() {
    Used x = new Used();
    x.file(0, "a,b,,cdefgh,");
    x.told(0, 1, 3, ',');
    x.dueCuts(0, 0, 0, 2, 4, 5, 8, 11, 12);
    x.told(0, 3, 5, ',');
    x.dueCuts(0, 0, 0, 4, 9, 12);
    x.told(0, 4, 4, ',');
    x.dueCuts(0, 0, 0, 4, 8, 12);
    x.told(0, 1, 1, ',');
    Due.same(x.cuts(0, 0), 12);
    x.fullFile(1);
    x.told(0, 200, 200, 0);
    x.dueCuts(0, 1, 0, 200, 400, 600);
  }

  @Sentence("Terms I: mark (0 .. 255) (the least, the most, and the highest bit)")
  static void toldMarks() {
    Used x = new Used();
    x.file(0, "\u00ffa\u0000b\u0080c\u007f");
    x.told(0, 1, 9, 255);
    x.dueCuts(0, 0, 0, 1, 7);
    x.told(0, 1, 9, 0);
    x.dueCuts(0, 0, 0, 3, 7);
    x.told(0, 1, 9, 128);
    x.dueCuts(0, 0, 0, 5, 7);
    x.told(0, 1, 9, 127);
    x.dueCuts(0, 0, 0, 7);
  }

  @Sentence("Terms I: The last PIECE ends with the FILE.")
  static void theLastPiece() {
    Used x = new Used();
    x.signs(0, 0, 0, 0, 0, 0, 0, 0);
    x.fixed(0, 4);
    x.rolling(1, false, 4, 4, 1, 8, 255);
    x.rolling(2, true, 4, 4, 1, 8, 255);
    x.told(3, 4, 4, 255);
    for (int r = 0; r < 4; r++) {
      x.dueCuts(r, 0, 0, 4, 7);
    }
    x.signs(1, 0);
    for (int r = 0; r < 4; r++) {
      x.dueCuts(r, 1, 0, 1);
    }
  }

  @Sentence("Terms I: The last PIECE ends with the FILE (it has not come to most bytes: no spare mark counts).")
  static void theLastPieceOfTwo() {
    Used x = new Used();
    x.signs(0, 0, 1, 0, 0);
    x.rolling(0, true, 1, 5, 1, 2, 3);
    x.dueCuts(0, 0, 0, 4);
    x.rolling(0, true, 1, 200, 1, 2, 3);
    x.dueCuts(0, 0, 0, 4);
  }

  @Sentence("Terms I: but with most bytes and no such SIGN (just at the FILE's end)")
  static void mostAtTheEndOfTheFile() {
    Used x = new Used();
    x.signs(0, 0, 1, 0, 0);
    x.rolling(0, true, 1, 4, 1, 2, 3);
    x.dueCuts(0, 0, 0, 2, 4);
    x.rolling(0, true, 3, 4, 1, 2, 3);
    x.dueCuts(0, 0, 0, 4);
  }
}
