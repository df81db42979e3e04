import java.util.Arrays;
import java.util.HashSet;
import java.util.Set;

/** Promises 26 and 27: SUPERS. */
public final class SupersTest {
  public static void main(String[] args) {
    nothingKept();
    overlaps();
    choice();
    rows();
    theLatest();
    atMostTwoHundred();
    wrongInputs();
    Due.close();
  }

  private static void nothingKept() {
    CutStore x = kept();
    Due.same("nothing KEPT", x.supers(), 0);
    pairs("nothing KEPT", x);
    x.keep(0, 4);
    Due.same("an empty FILE KEPT", x.supers(), 0);
    x = kept("a");
    Due.same("one number", x.supers(), 1);
    x = kept("abcd");
    Due.same("no pair twice", x.supers(), 4);
    pairs("no pair twice", x);
  }

  private static void overlaps() {
    CutStore x = kept("aaa");
    Due.same("1 1 1: once", x.supers(), 3);
    x = kept("aaaa");
    Due.same("1 1 1 1: twice", x.supers(), 2 + 2);
    pairs("1 1 1 1", x, 1, 1, 2);
    x = kept("aaaaa");
    Due.same("1 1 1 1 1: twice", x.supers(), 3 + 2);
    x = kept("aaaaaaaa");
    Due.same("eight", x.supers(), 2 + 4);
    pairs("eight", x, 1, 1, 4, 1001, 1001, 2);
    x = kept("aaabaaa");
    // 1001 1 2 1001 1, then 1002 2 1002
    Due.same("1 1 1 2 1 1 1", x.supers(), 3 + 4);
    pairs("1 1 1 2 1 1 1", x, 1, 1, 2, 1001, 1, 2);
    // 1 1 1 2 2 2: the last 1 and the first 2 are a pair of their own.
    x = kept("aaabbbab");
    Due.same("1 1 1 2 2 2 1 2", x.supers(), 6 + 2);
    pairs("1 1 1 2 2 2 1 2", x, 1, 2, 2);
  }

  private static void choice() {
    CutStore x = kept("cdxcdyabzabwab");
    // c d x y a b z w: 1 2 3 1 2 4 5 6 7 5 6 8 5 6
    Due.same("most often first", x.supers(), 9 + 4);
    pairs("most often first", x, 5, 6, 3, 1, 2, 2);
    x = kept("abcdaxbab", "dabacabac");
    // a 1, b 2, c 3, d 4, x 5: 1 2 3 4 1 5 2 1 2 and 4 1 2 1 3 1 2 1 3
    // 1001 3 4 1 5 2 1001 and 4 1001 1 3 1001 1 3: 1 3 stands ahead of 1001 1.
    Due.same("both rows", x.supers(), 10 + 6);
    pairs("both rows", x, 1, 2, 4, 1, 3, 2, 1001, 1002, 2);
    x = kept("acxabyaczab");
    // a 1, c 2, x 3, b 4: of the same count and first number the least second one.
    x.supers();
    pairs("the least second one", x, 1, 2, 2, 1, 4, 2);
    x = kept("abc", "cazcaybcwbc");
    // b c is there three times; c a twice.
    x.supers();
    pairs("the least first one later", x, 2, 3, 3, 3, 1, 2);
    x = kept("abc", "cazcaybc");
    x.supers();
    pairs("of the same count the least first number", x, 2, 3, 2, 3, 1, 2);
    // 1 2 is there three times, 2 1 four times: 1 1001 1001 and 1001 1001.
    x = kept("ababa", "baba");
    Due.same("the second pair more often", x.supers(), 3 + 4);
    pairs("the second pair more often", x, 2, 1, 4, 1001, 1001, 2);
  }

  private static void rows() {
    CutStore x = kept("ab", "ab", "", "ab");
    Due.same("pairs of several rows", x.supers(), 3 + 2);
    pairs("pairs of several rows", x, 1, 2, 3);
    x = kept("a", "b", "a", "b");
    Due.same("no pair reaches over a row's end", x.supers(), 4);
    x = kept("aaa", "a");
    Due.same("nor do rows of like numbers", x.supers(), 4);
    x = kept("aa", "aa");
    Due.same("the next row begins anew", x.supers(), 2 + 2);
    pairs("the next row begins anew", x, 1, 1, 2);
    x = kept("aaa", "aaa");
    Due.same("odd rows, from the left on", x.supers(), 2 + 4);
    pairs("odd rows, from the left on", x, 1, 1, 2, 1001, 1, 2);
  }

  private static void theLatest() {
    CutStore x = kept("abab");
    Due.same("supers", x.supers(), 2 + 2);
    int[] before = {x.count(0), x.count(1), x.count(2), x.count(3), x.count(4), x.count(5)};
    Due.same("once more the same", x.supers(), 4);
    for (int what = 0; what < 6; what++) {
      Due.same("THE STORE stays", x.count(what), before[what]);
    }
    Due.numbers("THE STORE stays", x, 0, 1, 2, 1, 2);
    x.drop(0);
    pairs("they stay until the next supers()", x, 1, 2, 2);
    Due.same("now without", x.supers(), 0);
    pairs("now without", x);
  }

  /** 201 pairs, each there twice, and no other pair more than once: the last one gets no new number. */
  private static void atMostTwoHundred() {
    CutStore x = new CutStore();
    x.fixed(0, 1);
    byte[] line = twicePairs(201);
    for (int f = 0; f * 600 < line.length; f++) {
      Due.file(x, f, Arrays.copyOfRange(line, f * 600, Math.min(f * 600 + 600, line.length)));
      x.keep(0, f);
    }
    Due.same("numbers KEPT", x.count(2), 1206);
    Due.same("what is left", x.supers(), 1206 - 400 + 400);
    for (int k = 0; k < 200; k++) {
      Due.same("pair(" + k + ", 2)", x.pair(k, 2), 2);
    }
    Due.same("no more than 200", x.pair(200, 0), -1);
  }

  /** Each of so many pairs twice, with a byte behind it that makes no other pair come again. */
  private static byte[] twicePairs(int pairs) {
    byte[] line = new byte[pairs * 6];
    Set<Integer> used = new HashSet<>();
    for (int j = 0; j < 2 * pairs; j++) {
      int second = 20 + j / 2 / 15;
      int next = (j + 1) / 2 % 15;
      int between = 100;
      while (used.contains(second * 256 + between) || used.contains(between * 256 + next)) {
        between++;
      }
      used.add(second * 256 + between);
      used.add(between * 256 + next);
      line[3 * j] = (byte) (j / 2 % 15);
      line[3 * j + 1] = (byte) second;
      line[3 * j + 2] = (byte) between;
    }
    return line;
  }

  private static void wrongInputs() {
    CutStore x = kept("abab");
    Due.same("ahead of supers()", x.pair(0, 0), -1);
    x.supers();
    for (int k : new int[] {-1, 1, 199, 200, 1001, Integer.MIN_VALUE, Integer.MAX_VALUE}) {
      Due.same("pair(" + k + ", 0)", x.pair(k, 0), -1);
    }
    for (int what : new int[] {-1, 3, Integer.MIN_VALUE, Integer.MAX_VALUE}) {
      Due.same("pair(0, " + what + ")", x.pair(0, what), -1);
    }
  }

  /** FILES of these bytes, each KEPT byte by byte. */
  private static CutStore kept(String... texts) {
    CutStore x = new CutStore();
    x.fixed(0, 1);
    for (int f = 0; f < texts.length; f++) {
      Due.file(x, f, texts[f]);
      x.keep(0, f);
    }
    return x;
  }

  /** First number, second number and count of each new number. */
  private static void pairs(String call, CutStore x, int... want) {
    for (int i = 0; i < want.length; i++) {
      Due.same(call + ": pair(" + i / 3 + ", " + i % 3 + ")", x.pair(i / 3, i % 3), want[i]);
    }
    Due.same(call + ": no more", x.pair(want.length / 3, 0), -1);
  }
}
