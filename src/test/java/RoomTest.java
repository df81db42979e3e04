import java.lang.management.ManagementFactory;
import java.lang.reflect.Array;
import java.lang.reflect.Field;
import java.util.ArrayDeque;
import java.util.Collections;
import java.util.Deque;
import java.util.IdentityHashMap;
import java.util.List;
import java.util.Set;

/** The room that an object takes; .ci/run has it interpreted, as compiled code leaves out what is not used. */
public final class RoomTest {
  // So that a run could make a hundred objects in the one room of 7.3 million.
  private static final long MOST_ELEMENTS = 70_000;
  private static final long MOST_OBJECTS = 100;

  public static void main(String[] args) throws IllegalAccessException {
    Due.run(RoomTest.class);
  }

  @Sentence("LANGUAGE 12: What a run makes is counted (all calls of one run live in one room)")
  static void roomOfOneObject() throws IllegalAccessException {
    CutStore x = new CutStore();
    long[] atFirst = room(x);
    use(x);
    long[] atLast = room(x);
    Due.calling("the objects of one CutStore");
    Due.yes(atFirst[0] <= MOST_OBJECTS);
    Due.same(atLast[0], atFirst[0]);
    Due.calling("the fields and elements of one CutStore");
    Due.yes(atFirst[1] <= MOST_ELEMENTS);
    Due.same(atLast[1], atFirst[1]);
  }

  @Sentence("LANGUAGE 12: keep it small (rows are made by the constructor, later calls make none)")
  static void callsMakeNothing() {
    // What calls make comes each time; what the machine itself makes now and then does not.
    long least = Long.MAX_VALUE;
    for (int i = 0; i < 3; i++) {
      least = Math.min(least, bytesMade());
    }
    Due.calling("calls of the whole face: the bytes that they make");
    Due.same(least, 0);
  }

  private static long bytesMade() {
    CutStore x = new CutStore();
    long idle = allocated();
    long before = allocated();
    use(x);
    // Measuring makes a little too.
    return allocated() - before - (before - idle);
  }

  private static long allocated() {
    return ((com.sun.management.ThreadMXBean) ManagementFactory.getThreadMXBean())
        .getThreadAllocatedBytes(Thread.currentThread().getId());
  }

  /** Calls of the whole face, on full FILES. */
  private static void use(CutStore x) {
    for (int f = 0; f < 8; f++) {
      for (int i = 0; i < 3; i++) {
        x.sow(f, 200, f, 64);
      }
    }
    for (int round = 0; round < 8; round++) {
      useFiles(x, 50 * round, round);
      useRules(x, round % 4, round);
      useStore(x, round % 4, round);
    }
  }

  private static void useFiles(CutStore x, int n, int f) {
    x.feed(n, f, -1, -n, -f);
    x.end(19);
    x.edit(f, n, 19);
    x.copy(f, (f + 3) % 8);
    x.sow(f, 1, n, 256);
    x.at(f, n);
  }

  private static void useRules(CutStore x, int r, int f) {
    x.fixed(0, 1 + f % 3);
    x.rolling(1 + f % 2, f % 2 == 1, 2, 40, 16, 3, 1);
    x.told(3, 1, 30, f);
    x.sum(1, f, 599);
    x.cuts(r, f);
    x.cut(r, f, 1);
    x.agree(r, f, (f + 1) % 8);
    x.sent(r, f, (f + 1) % 8);
    x.cost(r, 255);
    x.best(255);
  }

  private static void useStore(CutStore x, int r, int f) {
    x.keep(r, f);
    x.bring((f + 2) % 8);
    x.jumps(f);
    x.number(f, 1);
    x.piece(1, 1);
    x.count(3);
    x.prices(f, r);
    x.supers();
    x.pair(0, 0);
    x.drop((f + 4) % 8);
  }

  /** Objects and arrays, and fields and elements, of all that can be reached. */
  private static long[] room(Object from) throws IllegalAccessException {
    long[] room = new long[2];
    Set<Object> seen = Collections.newSetFromMap(new IdentityHashMap<>());
    Deque<Object> open = new ArrayDeque<>(List.of(from));
    while (!open.isEmpty()) {
      Object next = open.pop();
      if (!seen.add(next)) {
        continue;
      }
      room[0]++;
      if (next.getClass().isArray()) {
        int length = Array.getLength(next);
        room[1] += length;
        for (int i = 0; i < length && !next.getClass().getComponentType().isPrimitive(); i++) {
          open.push(Array.get(next, i));
        }
      } else {
        for (Field f : LanguageTest.instanceFields(next.getClass())) {
          room[1]++;
          f.setAccessible(true);
          if (!f.getType().isPrimitive()) {
            open.push(f.get(next));
          }
        }
      }
    }
    return room;
  }
}
