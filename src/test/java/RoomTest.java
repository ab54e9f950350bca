import com.sun.management.ThreadMXBean;
import java.lang.management.ManagementFactory;

/** All calls of a run live in one room: the constructor makes what there is, and no call makes more. */
public final class RoomTest {
  private static final int ROUNDS = 300;

  public static void main(String[] args) {
    ThreadMXBean room = (ThreadMXBean) ManagementFactory.getThreadMXBean();
    long own = Thread.currentThread().getId();
    long answers = rounds();
    long before = room.getThreadAllocatedBytes(own);
    answers += rounds();
    long after = room.getThreadAllocatedBytes(own);
    long aRound = (after - before) / ROUNDS;
    Due.isTrue("a new object and every call once take " + aRound + " bytes", aRound > 0 && aRound < 16000);
    StonePost x = new StonePost();
    everyCall(x);
    before = room.getThreadAllocatedBytes(own);
    for (int r = 0; r < ROUNDS; r++) {
      answers += everyCall(x);
    }
    after = room.getThreadAllocatedBytes(own);
    Due.isTrue("calls take " + (after - before) + " bytes", after - before < 16 * ROUNDS);
    Due.isTrue("answers", answers != 0);
    Due.end();
  }

  private static long rounds() {
    long answers = 0;
    for (int r = 0; r < ROUNDS; r++) {
      answers += everyCall(new StonePost());
    }
    return answers;
  }

  private static long everyCall(StonePost x) {
    long sum = x.stuff(3, 1) + x.rule(1, 3) + x.thrower(3, 5) + x.thrower(6, 12) + x.of(0, 1) + x.change(0, 2, 4);
    sum += x.walk(0, 6) + x.told(0, 0, 1, 3) + x.falls(0, 1, 3, true) + x.next(5) + x.letter(6) + x.where(0);
    sum += x.letter(2) + x.take(0) + x.hours(5) + x.letters(2) + x.odds(6, 15, 23) + x.lost(6, 15);
    sum += x.likeliest(6, 15) + x.fewest(6) + x.free(6) + x.may(6, 60) + x.best(6, 15) + x.choose(0, 15);
    sum += x.plan(6, 8) + x.set(1) + x.missed(6, 10) + x.stand(6, 10) + x.fetchFor(6, 10) + x.copies(6, 7);
    sum += x.whose(9, 12) + x.from(9, 20) + x.thief(6, 20) + x.gifts() + x.seed(5);
    sum += x.feed(0x686f6d65, 4) + x.feed(0x2032323b, 4) + x.feed(0x6c616420, 4) + x.feed(0x61742037, 4) + x.text();
    sum += x.feed(0x686f6d65, 4) + x.wipe() + x.hold(0, 0) + x.as(0, 1) + x.sheet(0, 8, 9) + x.write(0, 1, 300);
    sum += x.copy(0, 0, 0, 1, 5) + x.load(0) + x.judge(0, 0) + x.image() + x.undo() + x.tear() + x.count(3);
    return sum + x.status(-1);
  }
}
