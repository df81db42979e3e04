import java.util.Arrays;
import java.util.List;
import java.util.function.Consumer;

/** What a call does not tell to change stays: after each call, all else is as it was. */
public final class StaysTest {
  private static final int MAX = Integer.MAX_VALUE;

  public static void main(String[] args) throws IllegalAccessException {
    Due.run(StaysTest.class);
  }

  /** Something on the tape, in FILES and RULES, KEPT, met, priced and put under a new number. */
  private static Used busy() {
    Used x = new Used();
    x.fixed(0, 2);
    x.told(1, 1, 3, 'c');
    x.prices(3, 4);
    x.file(0, "abcaab");
    x.file(1, "abca");
    x.keep(0, 0);
    x.keep(0, 1);
    x.supers();
    x.file(0, "abcx");
    x.file(1, "q");
    x.file(6, "abcde");
    x.tape("tape");
    return x;
  }

  /** Makes the call on a busy object: all but the named parts is as it was. */
  private static void stays(Consumer<Used> call, String... changed) {
    Used x = busy();
    call.accept(x);
    List<String> parts = Arrays.asList(changed);
    if (!parts.contains("file 0")) {
      x.dueText(0, "abcx");
    }
    if (!parts.contains("file 1")) {
      x.dueText(1, "q");
    }
    if (!parts.contains("rule 0")) {
      x.dueCuts(0, 6, 0, 2, 4, 5);
      if (!parts.contains("prices")) {
        Due.same(x.cost(0, 64), 5 + 3 * 3 + 3 * 4);
      }
    }
    if (!parts.contains("rule 1")) {
      x.dueCuts(1, 6, 0, 3, 5);
    }
    if (!parts.contains("kept 0")) {
      x.dueNumbers(0, 1, 2, 1);
      Due.same(x.piece(1, 1), 3);
      x.dueStore(2, 4, 5, 2);
      Due.same(x.count(4), 2);
    }
    x.dueNumbers(1, 1, 2);
    if (!parts.contains("pairs")) {
      x.duePairs(1, 2, 2);
    }
    if (!parts.contains("tape")) {
      Due.no(x.end(5));
      Due.same(x.edit(7, 0, 0), 4);
      x.dueText(7, "tape");
    }
    Due.same(x.best(0), 0);
    Due.same(x.cuts(2, 6), -1);
  }

  @Sentence("Not promised: Nothing is promised beyond the answers and state changes described above (1 to 7)")
  static void callsOnFiles() {
    stays(x -> Due.same(x.feed(1, 2, 3, 4, 5), 24), "tape");
    stays(x -> Due.yes(x.end(1)), "tape");
    stays(x -> Due.same(x.edit(0, 1, 2), 6), "tape", "file 0");
    stays(x -> Due.same(x.sow(0, 9, 1, 4), 13), "file 0");
    stays(x -> Due.same(x.copy(1, 0), 1), "file 0");
    stays(x -> Due.same(x.copy(0, 1), 4), "file 1");
    stays(x -> Due.same(x.at(0, 3), 'x'));
  }

  @Sentence("Not promised: Nothing is promised beyond the answers and state changes described above (8 to 17)")
  static void callsOnRules() {
    stays(x -> Due.yes(x.fixed(0, 5)), "rule 0");
    stays(x -> Due.yes(x.rolling(0, false, 1, 9, 16, 3, 3)), "rule 0");
    stays(x -> Due.yes(x.rolling(1, true, 1, 9, 16, 3, 3)), "rule 1");
    stays(x -> Due.yes(x.told(1, 3, 9, 'a')), "rule 1");
    stays(x -> {
      x.cuts(1, 1);
      x.cut(1, 0, 1);
      x.sum(0, 0, 0);
      x.agree(0, 0, 1);
      x.sent(1, 1, 0);
      x.cost(1, 255);
      Due.same(x.best(255), 1);
    });
  }

  @Sentence("Not promised: Nothing is promised beyond the answers and state changes described above (18 to 27)")
  static void callsOnTheStore() {
    stays(x -> Due.same(x.keep(1, 0), 2), "kept 0");
    stays(x -> Due.same(x.drop(0), 0), "kept 0");
    stays(x -> Due.same(x.bring(0), 6), "file 0");
    stays(x -> Due.same(x.bring(1), 4), "file 1");
    stays(x -> Due.yes(x.prices(100, 100)), "prices");
    stays(x -> Due.same(x.supers(), 3 + 2));
    stays(x -> {
      x.drop(0);
      Due.same(x.supers(), 2);
    }, "kept 0", "pairs");
    stays(x -> {
      x.jumps(0);
      x.number(0, 1);
      x.piece(2, 1);
      x.count(3);
      x.pair(0, 2);
    });
  }

  @Sentence("The constants: There is none; it is refused. (Nothing changes by a refused call)")
  static void refusedCalls() {
    stays(x -> Due.no(x.end(-1)));
    stays(x -> Due.no(x.end(5)));
    stays(x -> Due.same(x.edit(0, 5, 0), -1));
    stays(x -> Due.same(x.edit(0, 4, 1), -1));
    stays(x -> Due.same(x.edit(8, 0, 0), -1));
    stays(x -> Due.same(x.sow(0, 0, 1, 1), -1));
    stays(x -> Due.same(x.sow(0, 201, 1, 1), -1));
    stays(x -> Due.same(x.sow(0, 1, 1, 257), -1));
    stays(x -> Due.same(x.copy(8, 0), -1));
    stays(x -> Due.same(x.copy(0, -1), -1));
    stays(x -> Due.no(x.fixed(0, 201)));
    stays(x -> Due.no(x.fixed(6, 2)));
    stays(x -> Due.no(x.rolling(0, false, 1, 201, 1, 1, 1)));
    stays(x -> Due.no(x.rolling(1, true, 1, 9, 1, 1, 256)));
    stays(x -> Due.no(x.told(1, 4, 3, 'a')));
    stays(x -> Due.same(x.keep(2, 0), -1));
    stays(x -> Due.same(x.keep(0, 8), -1));
    stays(x -> Due.same(x.drop(6), -1));
    stays(x -> Due.same(x.bring(6), -1));
    stays(x -> Due.no(x.prices(5, 101)));
    stays(x -> Due.no(x.prices(-1, 5)));
  }

  @Sentence("The constants: There is none; it is refused. (Nothing changes by what is asked in vain)")
  static void askedInVain() {
    for (int wrong : new int[] {-1, MAX, Integer.MIN_VALUE}) {
      stays(x -> {
        Due.same(x.at(wrong, wrong), -1);
        Due.same(x.sum(wrong, wrong, wrong), -1);
        Due.same(x.cuts(wrong, wrong), -1);
        Due.same(x.cut(wrong, wrong, wrong), -1);
        Due.same(x.agree(wrong, wrong, wrong), -1);
        Due.same(x.sent(wrong, wrong, wrong), -1);
        Due.same(x.cost(wrong, wrong), -1);
        Due.same(x.jumps(wrong), -1);
        Due.same(x.number(wrong, wrong), -1);
        Due.same(x.piece(wrong, wrong), -1);
        Due.same(x.count(wrong), -1);
        Due.same(x.pair(wrong, wrong), -1);
      });
    }
  }

  @Sentence("Promise 4: -2 there would be more than 600 (and promise 5: nothing changes)")
  static void beyond600() {
    stays(x -> {
      for (int n = 1; n <= 3; n++) {
        x.sow(7, n < 3 ? 200 : 199, 1, 1);
      }
      Due.same(x.edit(7, 0, 0), -2);
      Due.same(x.sow(7, 2, 1, 1), -1);
      Due.same(x.at(7, 599), -1);
      Due.no(x.end(5));
      Due.same(x.edit(7, 0, 599), 4);
      x.dueText(7, "tape");
    }, "tape");
  }
}
