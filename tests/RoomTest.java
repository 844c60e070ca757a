import com.sun.management.ThreadMXBean;
import java.lang.management.ManagementFactory;

/** Rule 12: what a run makes is made with the object; its calls make nothing. */
public final class RoomTest {
  private static final long A_LITTLE = 4096;
  private static final int ROUNDS = 20;
  private static final int DEAREST_CALLS = 150;
  private static final int[] NUMBERS = {-1, 0, 9, 17, 18};
  private static final ThreadMXBean THREADS =
      (ThreadMXBean) ManagementFactory.getThreadMXBean();

  public static void main(String[] args) {
    // What the machine itself makes when code runs for the first time is no matter here.
    madeByAllCalls(Edges.fullest());
    madeByDearestCalls(Edges.fullest());
    long ofCalls = 0;
    for (int round = 0; round < ROUNDS; round++) {
      ofCalls += madeByAllCalls(Edges.fullest());
      ofCalls += madeByDearestCalls(Edges.fullest());
    }
    long before = made();
    LifeLinks fresh = new LifeLinks();
    long ofOne = made() - before;
    System.out.println("an object takes " + ofOne + " bytes, its calls " + ofCalls);
    Check.holds("calls make nothing: " + ofCalls, ofCalls <= A_LITTLE);
    Check.holds("an object is small: " + ofOne, ofOne > 0 && ofOne < 40000);
    Check.due("the fresh one", fresh.count(0), 0);
    Check.end();
  }

  private static long made() {
    return THREADS.getThreadAllocatedBytes(Thread.currentThread().getId());
  }

  /** All that follows is worked out anew for each digest. */
  private static long madeByDearestCalls(LifeLinks x) {
    long before = made();
    long sum = 0;
    for (int call = 0; call < DEAREST_CALLS; call++) {
      sum += x.bound(2, call % 2) + x.digest();
    }
    long after = made();
    Check.holds("the answers are used", sum != 1);
    return after - before;
  }

  private static long madeByAllCalls(LifeLinks x) {
    long before = made();
    long sum = x.fault() + x.blank();
    for (int entry : NUMBERS) {
      for (int what : NUMBERS) {
        sum += x.entry(entry, what) + x.sign(entry, what) + x.as(entry, what);
        sum += x.two(entry, what, 2) + x.life(entry, what) + x.wedding(entry, what);
        sum += x.worth(entry, what) + x.lives(what) + x.count(what);
      }
      sum += x.fits(entry) + x.nearest(entry) + x.mate(entry);
      sum += x.part(entry, 3) + x.age(entry, 60) + x.fits(0);
    }
    sum += x.strike(17) + x.letter('d') + x.letter('a') + x.letter(':') + x.letter('1');
    sum += x.letter('7') + x.letter('0') + x.letter('0') + x.enter() + x.digest();
    long after = made();
    Check.holds("the answers are used", sum != 1);
    return after - before;
  }
}
