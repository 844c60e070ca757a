import com.sun.management.ThreadMXBean;
import java.lang.management.ManagementFactory;

/** Rule 12: what a run makes is made with the object; its calls make nothing. */
public final class RoomTest {
  private static final long A_LITTLE = 4096;
  private static final ThreadMXBean THREADS =
      (ThreadMXBean) ManagementFactory.getThreadMXBean();

  public static void main(String[] args) {
    LifeLinks warm = fullRegister();
    allCalls(warm);
    made();
    LifeLinks x = fullRegister();
    long before = made();
    long sum = 0;
    for (int call = 0; call < 512; call++) {
      sum += x.bound(2, call % 2) + x.digest();
    }
    for (int call = 0; call < 20; call++) {
      sum += allCalls(x);
    }
    long ofCalls = made() - before;
    before = made();
    LifeLinks fresh = new LifeLinks();
    long ofOne = made() - before;
    System.out.println("an object takes " + ofOne + " bytes, its calls " + ofCalls);
    Check.holds("calls make nothing: " + ofCalls, ofCalls <= A_LITTLE);
    Check.holds("an object is small: " + ofOne, ofOne > 0 && ofOne < 40000);
    Check.due("the fresh one", fresh.count(0), 0);
    Check.holds("the answers are used", sum != 1);
    Check.end();
  }

  private static long made() {
    return THREADS.getThreadAllocatedBytes(Thread.currentThread().getId());
  }

  private static LifeLinks fullRegister() {
    return Check.made("banna:1700;bhanna:1701;banne:1702;bana:1703;bhana:1700",
        "banna:1701;bannah:1702;danna:1760;dhanna:1760;dana:1760",
        "dhanne:1761;dannas:1762;wanna:1720;whanna:1721;wana:1722",
        "wanne:1723;wanna:1724;whana:1725");
  }

  private static long allCalls(LifeLinks x) {
    long sum = x.fault() + x.blank();
    for (int entry = -1; entry <= 18; entry++) {
      for (int what = -1; what <= 18; what++) {
        sum += x.entry(entry, what) + x.sign(entry, what) + x.as(entry, what);
        sum += x.two(entry, what, 2) + x.life(entry, what) + x.wedding(entry, what);
        sum += x.worth(entry, what) + x.lives(what) + x.count(what);
      }
      sum += x.fits(entry) + x.nearest(entry) + x.mate(entry);
      sum += x.part(entry, 3) + x.age(entry, 60) + x.fits(0);
    }
    sum += x.strike(17);
    String text = "whana:1725";
    for (int k = 0; k < text.length(); k++) {
      sum += x.letter(text.charAt(k));
    }
    return sum + x.enter();
  }
}
