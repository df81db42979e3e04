import java.util.HashSet;
import java.util.Set;

/** Terms III and promises 26 and 27: SUPERS. */
public final class SupersTest {
  private static final int MIN = Integer.MIN_VALUE;
  private static final int MAX = Integer.MAX_VALUE;

  public static void main(String[] args) throws IllegalAccessException {
    Due.run(SupersTest.class);
  }

  /** FILES of these bytes, each KEPT byte by byte: the numbers are 1, 2, .. as the bytes come. */
  private static Used kept(String... texts) {
    Used x = new Used();
    x.fixed(0, 1);
    for (int f = 0; f < texts.length; f++) {
      x.file(f, texts[f]);
      x.keep(0, f);
    }
    return x;
  }

  @Sentence("Promise 26: SUPERS are made of all that is KEPT (nothing)")
  static void nothingKept() {
    Used x = kept();
    Due.same(x.supers(), 0);
    x.duePairs();
    x.file(0, "abab");
    Due.same(x.supers(), 0);
    x.duePairs();
  }

  @Sentence("Promise 26: SUPERS are made of all that is KEPT (of FILES without bytes, or with one)")
  static void littleKept() {
    Used x = kept("", "", "");
    Due.same(x.supers(), 0);
    x.duePairs();
    x = kept("a");
    Due.same(x.supers(), 1);
    x.duePairs();
    x = kept("", "ab", "", "ab");
    Due.same(x.supers(), 2 + 2);
    x.duePairs(1, 2, 2);
  }

  @Sentence("Terms III: all that is KEPT, FILE by FILE, as rows of numbers (of all eight)")
  static void allFiles() {
    Used x = kept("ab", "b", "c", "d", "e", "f", "g", "ab");
    Due.same(x.supers(), 8 + 2);
    x.duePairs(1, 2, 2);
    x.file(0, "xyxy");
    Due.same(x.supers(), 8 + 2);
    x.duePairs(1, 2, 2);
    x.drop(7);
    Due.same(x.supers(), 8);
    x.duePairs();
  }

  @Sentence("Terms III: As long as a pair of numbers side by side (within a row) is there twice or more")
  static void twiceOrMore() {
    Used x = kept("abcd");
    Due.same(x.supers(), 4);
    x.duePairs();
    x = kept("abcab");
    Due.same(x.supers(), 3 + 2);
    x.duePairs(1, 2, 2);
    x = kept("abcabdabe");
    Due.same(x.supers(), 6 + 2);
    x.duePairs(1, 2, 3);
    x = kept("ab");
    Due.same(x.supers(), 2);
    x.duePairs();
    // 1 2 3 4 and a row of the same: 1 2, then 3 4, then both.
    x = kept("abcd", "abcd");
    Due.same(x.supers(), 2 + 6);
    x.duePairs(1, 2, 2, 3, 4, 2, 1001, 1002, 2);
  }

  @Sentence("Terms III: side by side (within a row)")
  static void withinARow() {
    Used x = kept("a", "b", "a", "b");
    Due.same(x.supers(), 4);
    x.duePairs();
    x = kept("aaa", "a");
    Due.same(x.supers(), 4);
    x.duePairs();
    x = kept("ab", "", "ca", "bd", "ab");
    Due.same(x.supers(), 6 + 2);
    x.duePairs(1, 2, 2);
    x = kept("xa", "by", "za", "bw");
    Due.same(x.supers(), 8);
    x.duePairs();
  }

  @Sentence("Terms III: counted from the left on without overlapping itself")
  static void withoutOverlapping() {
    Used x = kept("aaa");
    Due.same(x.supers(), 3);
    x.duePairs();
    x = kept("aaaa");
    Due.same(x.supers(), 2 + 2);
    x.duePairs(1, 1, 2);
    x = kept("aaaaa");
    Due.same(x.supers(), 3 + 2);
    x.duePairs(1, 1, 2);
    x = kept("aaaaaaaa");
    Due.same(x.supers(), 2 + 4);
    x.duePairs(1, 1, 4, 1001, 1001, 2);
    // 1 1 is there three times, not five times: 2 3 is there four times.
    x = kept("aaaaaa", "bcxbcybczbc");
    x.supers();
    Due.same(x.pair(0, 0), 2);
    Due.same(x.pair(0, 2), 4);
    Due.same(x.pair(1, 0), 1);
    Due.same(x.pair(1, 2), 3);
  }

  @Sentence("Terms III: without overlapping itself (pairs of other numbers may overlap it)")
  static void otherPairsOverlap() {
    // 1 2 is there three times, 2 1 four times: 1 1001 1001 and 1001 1001.
    Used x = kept("ababa", "baba");
    Due.same(x.supers(), 3 + 4);
    x.duePairs(2, 1, 4, 1001, 1001, 2);
    // 1 1 1 2 2 2 1 2: the last 1 and the first 2 are a pair.
    x = kept("aaabbbab");
    Due.same(x.supers(), 6 + 2);
    x.duePairs(1, 2, 2);
  }

  @Sentence("Terms III: row by row: the pair that is there most often")
  static void rowByRow() {
    Used x = kept("aa", "aa");
    Due.same(x.supers(), 2 + 2);
    x.duePairs(1, 1, 2);
    x = kept("aaa", "aaa");
    Due.same(x.supers(), 2 + 4);
    x.duePairs(1, 1, 2, 1001, 1, 2);
    x = kept("ab", "ab", "", "ab");
    Due.same(x.supers(), 3 + 2);
    x.duePairs(1, 2, 3);
  }

  @Sentence("Terms III: the pair that is there most often")
  static void mostOften() {
    // 1 2 3 1 2 4 5 6 7 5 6 8 5 6
    Used x = kept("cdxcdyabzabwab");
    Due.same(x.supers(), 9 + 4);
    x.duePairs(5, 6, 3, 1, 2, 2);
  }

  @Sentence("Terms III: (of several the one with the least first number")
  static void leastFirst() {
    // 1 2 3 and 3 1 4 3 1 5 2 3: 2 3 and 3 1 are there twice each.
    Used x = kept("abc", "cazcaybc");
    x.supers();
    x.duePairs(2, 3, 2, 3, 1, 2);
    // 1 2 3 4 and 3 2 5 1 4 6 3 2 7 1 4: 3 2 comes first and has the lesser second number.
    x = kept("abcd", "cbxadycbwad");
    x.supers();
    x.duePairs(1, 4, 2, 3, 2, 2);
  }

  @Sentence("Terms III: then the least second one) gets a new number")
  static void leastSecond() {
    // 1 2 3 1 4 5 1 2 6 1 4
    Used x = kept("acxabyaczab");
    x.supers();
    x.duePairs(1, 2, 2, 1, 4, 2);
    // 1 2 3 4, then 1 4 5 1 4 and 1 3 6 1 3: 1 3 goes first.
    x = kept("abcd", "adxadyaczac");
    x.supers();
    x.duePairs(1, 3, 2, 1, 4, 2);
  }

  @Sentence("Terms III: gets a new number (from 1001 on)")
  static void newNumbers() {
    // 1 1 .. (16 of them): each new number pairs with itself.
    Used x = kept("aaaaaaaaaaaaaaaa");
    Due.same(x.supers(), 2 + 6);
    x.duePairs(1, 1, 8, 1001, 1001, 4, 1002, 1002, 2);
  }

  @Sentence("Terms III: of several the one with the least first number (new numbers are above all others)")
  static void newNumbersAreGreater() {
    // 1 2 3 4 1 5 2 1 2 and 4 1 2 1 3 1 2 1 3, then 1001 3 4 1 5 2 1001 and 4 1001 1 3 1001 1 3.
    Used x = kept("abcdaxbab", "dabacabac");
    Due.same(x.supers(), 10 + 6);
    x.duePairs(1, 2, 4, 1, 3, 2, 1001, 1002, 2);
  }

  @Sentence("Terms III: which takes its place, from the left on, row by row.")
  static void takesItsPlace() {
    // 1 1 1 2 1 1 1: 1001 1 2 1001 1, then 1002 2 1002.
    Used x = kept("aaabaaa");
    Due.same(x.supers(), 3 + 4);
    x.duePairs(1, 1, 2, 1001, 1, 2);
    // 1 1 1 in three rows: the last 1 is left over in each.
    x = kept("aaab", "aaac", "aaa");
    Due.same(x.supers(), 5 + 4);
    x.duePairs(1, 1, 3, 1001, 1, 3);
  }

  @Sentence("Terms III: At most 200 new numbers.")
  static void atMost200() {
    Used x = thrice(201);
    Due.same(x.count(2), 1809);
    Due.same(x.supers(), 1809 - 600 + 400);
    for (int k = 0; k < 200; k++) {
      Due.same(x.pair(k, 2), 3);
    }
    Due.same(x.pair(200, 0), -1);
  }

  @Sentence("Terms III: At most 200 new numbers (just as many)")
  static void just200() {
    Used x = thrice(200);
    Due.same(x.supers(), 1800 - 600 + 400);
    Due.same(x.pair(199, 2), 3);
    Due.same(x.pair(200, 2), -1);
    x = thrice(199);
    Due.same(x.supers(), 1791 - 597 + 398);
    Due.same(x.pair(198, 2), 3);
    Due.same(x.pair(199, 2), -1);
  }

  /** So many pairs, each there three times, and no other pair more than once. */
  private static Used thrice(int pairs) {
    StringBuilder line = new StringBuilder();
    Set<Integer> used = new HashSet<>();
    for (int j = 0; j < 3 * pairs; j++) {
      int second = 20 + j / 3 / 15;
      int next = (j + 1) / 3 % 15;
      int between = 60;
      while (used.contains(second * 256 + between) || used.contains(between * 256 + next)) {
        between++;
      }
      used.add(second * 256 + between);
      used.add(between * 256 + next);
      line.append((char) (j / 3 % 15)).append((char) second).append((char) between);
    }
    Used x = new Used();
    x.fixed(0, 1);
    for (int f = 0; f * 600 < line.length(); f++) {
      x.file(f, line.substring(f * 600, Math.min(f * 600 + 600, line.length())));
      x.keep(0, f);
    }
    return x;
  }

  @Sentence("Terms III: What is left: how many numbers stand in all rows then, and 2 for each new number.")
  static void whatIsLeft() {
    Due.same(kept("abcabc").supers(), 2 + 4);
    Due.same(kept("abcabc", "d").supers(), 3 + 4);
    Due.same(kept("abcabc", "abc").supers(), 3 + 4);
    Due.same(kept("a".repeat(600)).supers(), 5 + 16);
  }

  @Sentence("Promise 26: SUPERS are made of all that is KEPT (all FILES full, of one number)")
  static void fullOfOne() {
    Used x = new Used();
    x.keepAllFullOf("a");
    // 600 = 256 + 256 + 64 + 16 + 8: 1001 stands for 2 of them, .. 1008 for 256; then each row is
    // 1008 1008 1006 1004 1003, and its pairs stand in all eight rows.
    Due.same(x.supers(), 8 + 2 * 12);
    x.duePairs(1, 1, 2400, 1001, 1001, 1200, 1002, 1002, 600, 1003, 1003, 296, 1004, 1004, 144, 1005, 1005, 72,
        1006, 1006, 32, 1007, 1007, 16, 1004, 1003, 8, 1006, 1009, 8, 1008, 1008, 8, 1011, 1010, 8);
  }

  @Sentence("Promise 26: (THE STORE stays)")
  static void theStoreStays() {
    Used x = kept("ababc", "ab");
    int room = x.count(3);
    Due.same(x.supers(), 4 + 2);
    Due.same(x.supers(), 4 + 2);
    x.dueStore(3, 3, 7, 2);
    Due.same(x.count(3), room);
    Due.same(x.count(4), 0);
    x.dueNumbers(0, 1, 2, 1, 2, 3);
    x.dueNumbers(1, 1, 2);
    Due.same(x.piece(1, 1), 3);
    Due.same(x.piece(1001, 0), -1);
    Due.same(x.jumps(0), 2);
    Due.same(x.bring(0), 5);
    x.dueText(0, "ababc");
  }

  @Sentence("Promise 27: New number 1001 + k of the latest supers(): 0 its first number, 1 its second one, 2 how often")
  static void pair() {
    Used x = kept("babacbaba");
    // 1 2 1 2 3 1 2 1 2
    Due.same(x.supers(), 3 + 4);
    Due.same(x.pair(0, 0), 1);
    Due.same(x.pair(0, 1), 2);
    Due.same(x.pair(0, 2), 4);
    Due.same(x.pair(1, 0), 1001);
    Due.same(x.pair(1, 1), 1001);
    Due.same(x.pair(1, 2), 2);
  }

  @Sentence("Promise 27: of the latest supers()")
  static void pairOfTheLatest() {
    Used x = kept("abab", "cdcd");
    x.supers();
    x.duePairs(1, 2, 2, 3, 4, 2);
    x.drop(0);
    x.keep(0, 2);
    x.duePairs(1, 2, 2, 3, 4, 2);
    x.supers();
    x.duePairs(3, 4, 2);
    x.drop(1);
    x.duePairs(3, 4, 2);
    x.supers();
    x.duePairs();
  }

  @Sentence("Promise 27: NONE when there is none such")
  static void pairNoneSuch() {
    Used x = kept("abab");
    for (int what = 0; what < 3; what++) {
      Due.same(x.pair(0, what), -1);
    }
    x.supers();
    for (int k : new int[] {-1, 1, 199, 200, 1001, MIN, MAX}) {
      for (int what = 0; what < 3; what++) {
        Due.same(x.pair(k, what), -1);
      }
    }
  }

  @Sentence("Promise 27: or for others.")
  static void pairOthers() {
    Used x = kept("abab");
    x.supers();
    for (int what : new int[] {-1, 3, 4, 256, MIN, MAX}) {
      Due.same(x.pair(0, what), -1);
      Due.same(x.pair(1, what), -1);
    }
  }
}
