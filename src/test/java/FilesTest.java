/** Promises 1 to 7: a new object, the tape and the FILES. */
public final class FilesTest {
  private static final int MIN = Integer.MIN_VALUE;
  private static final int MAX = Integer.MAX_VALUE;
  private static final int AAAA = 0x61616161;

  public static void main(String[] args) {
    aNewObject();
    feed();
    end();
    edit();
    editRefused();
    sow();
    sowRefused();
    copy();
    at();
    Due.close();
  }

  private static void aNewObject() {
    CutStore x = new CutStore();
    Due.no("new: end(1)", x.end(1));
    Due.yes("new: end(0)", x.end(0));
    for (int f = 0; f < 8; f++) {
      Due.same("new: at", x.at(f, 0), -1);
      Due.same("new: edit", x.edit(f, 0, 0), 0);
      Due.same("new: drop", x.drop(f), -1);
      Due.same("new: bring", x.bring(f), -1);
      Due.same("new: jumps", x.jumps(f), -1);
      Due.same("new: number", x.number(f, 0), -1);
    }
    for (int r = 0; r < 6; r++) {
      Due.same("new: cuts", x.cuts(r, 0), -1);
      Due.same("new: cost", x.cost(r, 255), -1);
      Due.same("new: keep", x.keep(r, 0), -1);
    }
    Due.same("new: best", x.best(255), -1);
    for (int what = 0; what < 6; what++) {
      Due.same("new: count", x.count(what), 0);
    }
    Due.same("new: piece", x.piece(1, 0), -1);
    Due.same("new: pair", x.pair(0, 0), -1);
    Due.same("new: supers", x.supers(), 0);
    Due.same("NONE", CutStore.NONE, -1);
  }

  private static void feed() {
    CutStore x = new CutStore();
    Due.same("feed", x.feed(0x01020304, 0x80ff7f00, -1, MIN, MAX), 20);
    Due.same("feed again", x.feed(0x0a0b0c0d, 0, 0, 0, 0), 40);
    Due.same("edit", x.edit(0, 0, 0), 40);
    int[] want = {1, 2, 3, 4, 128, 255, 127, 0, 255, 255, 255, 255, 128, 0, 0, 0, 127, 255, 255, 255, 10, 11, 12, 13};
    for (int i = 0; i < want.length; i++) {
      Due.same("byte " + i, x.at(0, i), want[i]);
    }
    for (int n = 20; n <= 400; n += 20) {
      Due.same("feed up to 400", x.feed(n, n, n, n, n), n);
    }
    Due.same("feed beyond 400", x.feed(1, 1, 1, 1, 1), -1);
    Due.yes("end(381)", x.end(381));
    Due.same("feed beyond 400 by one", x.feed(1, 1, 1, 1, 1), -1);
    Due.no("nothing came", x.end(382));
    Due.yes("end(380)", x.end(380));
    Due.same("feed to just 400", x.feed(AAAA, AAAA, AAAA, AAAA, AAAA), 400);
    Due.same("edit", x.edit(1, 0, 0), 400);
    Due.same("at 379", x.at(1, 379), 380 & 255);
    Due.same("at 380", x.at(1, 380), 97);
  }

  private static void end() {
    CutStore x = new CutStore();
    x.feed(0x61626364, 0x65666768, 0, 0, 0);
    Due.no("end(21)", x.end(21));
    Due.no("end(-1)", x.end(-1));
    Due.no("end(MIN)", x.end(MIN));
    Due.no("end(MAX)", x.end(MAX));
    Due.yes("end(20)", x.end(20));
    Due.yes("end(5)", x.end(5));
    Due.no("end(6)", x.end(6));
    x.edit(0, 0, 0);
    Due.text("the first five", x, 0, "abcde");
    x.feed(AAAA, AAAA, AAAA, AAAA, AAAA);
    Due.yes("end(0)", x.end(0));
    Due.same("an empty tape", x.edit(0, 0, 0), 5);
    x.feed(AAAA, AAAA, AAAA, AAAA, AAAA);
    x.end(2);
    Due.same("feed behind a cut tape", x.feed(0x7a7a7a7a, 0, 0, 0, 0), 22);
    x.end(4);
    x.edit(0, 5, 0);
    Due.text("behind the first two", x, 0, "abcdeaazz");
  }

  private static void edit() {
    CutStore x = new CutStore();
    Due.file(x, 3, "abcdefgh");
    put(x, "XY");
    Due.same("in the middle, more come", x.edit(3, 2, 1), 9);
    Due.text("more come", x, 3, "abXYdefgh");
    Due.same("the tape went", x.edit(3, 0, 0), 9);
    put(x, "Q");
    Due.same("less come", x.edit(3, 4, 4), 6);
    Due.text("less come", x, 3, "abXYQh");
    put(x, "12");
    Due.same("at the end", x.edit(3, 6, 0), 8);
    Due.text("at the end", x, 3, "abXYQh12");
    put(x, "_");
    Due.same("at the beginning", x.edit(3, 0, 0), 9);
    Due.text("at the beginning", x, 3, "_abXYQh12");
    put(x, "!?");
    Due.same("all give way", x.edit(3, 0, 9), 2);
    Due.text("all give way", x, 3, "!?");
    Due.same("taken away", x.edit(3, 1, 1), 1);
    Due.text("taken away", x, 3, "!");
    Due.same("other files stay", x.at(2, 0), -1);
    Due.same("other files stay", x.at(4, 0), -1);
  }

  private static void editRefused() {
    CutStore x = new CutStore();
    Due.file(x, 0, "abc");
    put(x, "XY");
    int[][] wrong = {{-1, 0, 0}, {8, 0, 0}, {MIN, 0, 0}, {MAX, 0, 0}, {0, -1, 0}, {0, 4, 0}, {0, MAX, 0}, {0, MIN, 0},
        {0, 0, -1}, {0, 0, 4}, {0, 2, 2}, {0, 3, 1}, {0, 1, MAX}, {0, 1, MIN}, {0, MAX, MAX}, {0, MIN, MIN}};
    for (int[] w : wrong) {
      Due.same("edit(" + w[0] + ", " + w[1] + ", " + w[2] + ")", x.edit(w[0], w[1], w[2]), -1);
    }
    Due.text("nothing was done", x, 0, "abc");
    Due.same("the tape stayed", x.edit(0, 3, 0), 5);
    Due.text("the tape stayed", x, 0, "abcXY");
    x.sow(1, 200, 1, 256);
    x.sow(1, 200, 2, 256);
    x.sow(1, 199, 3, 256);
    put(x, "XY");
    Due.same("601 bytes", x.edit(1, 599, 0), -2);
    Due.same("601 bytes, at the beginning", x.edit(1, 0, 0), -2);
    Due.same("a wrong place comes first", x.edit(1, 600, 0), -1);
    Due.same("too many gone comes first", x.edit(1, 599, 1), -1);
    Due.same("still 599", x.at(1, 598) != -1 && x.at(1, 599) == -1 ? 1 : 0, 1);
    Due.same("just 600", x.edit(1, 598, 1), 600);
    Due.same("the tape stayed until then", x.at(1, 599), 'Y');
    put(x, "Z");
    Due.same("one for one in a full file", x.edit(1, 0, 1), 600);
    Due.same("at(1, 0)", x.at(1, 0), 'Z');
  }

  private static void sow() {
    CutStore x = new CutStore();
    // 1103515245 * 1 + 12345 = 1103527590 = 0x41C67EA6; >>> 8: 0x41C67E = 4310654.
    Due.same("sow", x.sow(0, 1, 1, 256), 1);
    Due.same("the first byte by seed 1", x.at(0, 0), 0x7E);
    Due.same("sow by 100", x.sow(0, 1, 1, 100), 2);
    Due.same("modulo 100", x.at(0, 1), 54);
    int g = -987654321;
    Due.same("sow more", x.sow(0, 200, g, 255), 202);
    for (int i = 2; i < 202; i++) {
      g = 1103515245 * g + 12345;
      Due.same("sown " + i, x.at(0, i), (g >>> 8) % 255);
    }
    Due.same("another file", x.sow(7, 3, 0, 1), 3);
    Due.same("spread 1", x.at(7, 2), 0);
  }

  private static void sowRefused() {
    CutStore x = new CutStore();
    x.sow(0, 200, 5, 7);
    x.sow(0, 200, 5, 7);
    int[][] wrong = {{-1, 1, 1}, {8, 1, 1}, {MAX, 1, 1}, {MIN, 1, 1}, {0, 0, 1}, {0, 201, 1}, {0, -1, 1}, {0, MAX, 1},
        {0, MIN, 1}, {0, 1, 0}, {0, 1, 257}, {0, 1, -1}, {0, 1, MAX}, {0, 1, MIN}};
    for (int[] w : wrong) {
      Due.same("sow(" + w[0] + ", " + w[1] + ", 9, " + w[2] + ")", x.sow(w[0], w[1], 9, w[2]), -1);
    }
    Due.same("nothing came", x.at(0, 400), -1);
    Due.same("to 599", x.sow(0, 199, 5, 7), 599);
    Due.same("beyond 600", x.sow(0, 2, 5, 7), -1);
    Due.same("nothing came", x.at(0, 599), -1);
    Due.same("to 600", x.sow(0, 1, 5, 7), 600);
    Due.same("beyond 600", x.sow(0, 1, 5, 7), -1);
  }

  private static void copy() {
    CutStore x = new CutStore();
    Due.file(x, 0, "abc");
    Due.file(x, 7, "longer than that");
    Due.same("copy to a longer one", x.copy(0, 7), 3);
    Due.text("copy", x, 7, "abc");
    put(x, "Q");
    x.edit(7, 0, 1);
    Due.text("the one it came from stays", x, 0, "abc");
    Due.text("the copy changes", x, 7, "Qbc");
    Due.same("onto itself", x.copy(7, 7), 3);
    Due.text("onto itself", x, 7, "Qbc");
    Due.same("an empty one", x.copy(5, 0), 0);
    Due.text("an empty one", x, 0, "");
    int[][] wrong = {{-1, 7}, {8, 7}, {7, -1}, {7, 8}, {MIN, 7}, {7, MAX}, {MAX, MIN}};
    for (int[] w : wrong) {
      Due.same("copy(" + w[0] + ", " + w[1] + ")", x.copy(w[0], w[1]), -1);
    }
    Due.text("nothing was done", x, 7, "Qbc");
  }

  private static void at() {
    CutStore x = new CutStore();
    Due.file(x, 2, "a\u00ff\u0000\u0080");
    Due.same("at 0", x.at(2, 0), 97);
    Due.same("at 1", x.at(2, 1), 255);
    Due.same("at 2", x.at(2, 2), 0);
    Due.same("at 3", x.at(2, 3), 128);
    for (int i : new int[] {4, -1, 600, MIN, MAX}) {
      Due.same("at(2, " + i + ")", x.at(2, i), -1);
    }
    for (int f : new int[] {-1, 8, 0, MIN, MAX}) {
      Due.same("at(" + f + ", 0)", x.at(f, 0), -1);
    }
  }

  /** Up to four characters on the tape. */
  private static void put(CutStore x, String text) {
    int word = 0;
    for (int i = 0; i < 4; i++) {
      word = word << 8 | (i < text.length() ? text.charAt(i) : 0);
    }
    x.feed(word, 0, 0, 0, 0);
    x.end(text.length());
  }
}
