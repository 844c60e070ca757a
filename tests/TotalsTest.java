/** Promises 21 and 22: count and digest. */
public final class TotalsTest {
  private static final int OUTSIDE = LifeLinks.OUTSIDE;

  public static void main(String[] args) {
    promise21Count();
    promise21CountOfRefusals();
    promise22Digest();
    promise22DigestByHand();
    promise22DigestChangesNothing();
    Check.end();
  }

  private static void count(LifeLinks x, int... wants) {
    for (int what = 0; what < wants.length; what++) {
      Check.due("count(" + what + ")", x.count(what), wants[what]);
    }
  }

  /**
   * "int count(int what): How many: 0 ENTRIES, 1 BIRTHS, 2 WEDDINGS, 3 BURIALS, 4 letters of THE
   * PAGE, 5 how often a text was read as ENTRIES, 6 how many were struck out, 7 how many two are
   * PARTED. OUTSIDE."
   */
  private static void promise21Count() {
    LifeLinks x = new LifeLinks();
    count(x, 0, 0, 0, 0, 0, 0, 0, 0);
    Check.enter(x, "banna:1700;danna:1770;wanna:1720;dotto:1800");
    count(x, 4, 1, 1, 2, 0, 1, 0, 0);
    Check.type(x, "bx");
    count(x, 4, 1, 1, 2, 2, 1, 0, 0);
    x.part(0, 1);
    x.part(2, 1);
    count(x, 4, 1, 1, 2, 2, 1, 0, 2);
    x.strike(1);
    count(x, 3, 1, 1, 1, 2, 1, 1, 0);
    x.blank();
    Check.enter(x, "banna:1700");
    count(x, 4, 2, 1, 1, 0, 2, 1, 0);
    x.strike(0);
    x.strike(0);
    count(x, 2, 1, 0, 1, 0, 2, 3, 0);
    int[] outside = {-1, 8, 9, Integer.MIN_VALUE, Integer.MAX_VALUE};
    for (int what : outside) {
      Check.due("count(" + what + ")", x.count(what), OUTSIDE);
    }
  }

  /** "they change nothing": what was refused is not counted. */
  private static void promise21CountOfRefusals() {
    LifeLinks x = Check.made("banna:1700;danna:1770");
    x.strike(2);
    x.part(0, 0);
    x.part(0, 2);
    x.enter();
    Check.type(x, "w");
    x.enter();
    x.fault();
    count(x, 2, 1, 0, 1, 1, 1, 0, 0);
  }

  private static LifeLinks changed(int changes) {
    LifeLinks x = Check.made("banna:1700;wana:1722.21;dhana:1760.59");
    if (changes > 0) {
      Check.enter(x, "danne:1761.60;banna:1701");
    }
    if (changes > 1) {
      Check.type(x, "wanna:1720 ~");
    }
    if (changes > 2) {
      x.part(0, 1);
    }
    if (changes > 3) {
      x.strike(2);
    }
    if (changes > 4) {
      x.bound(2, 500);
      x.bound(0, 0);
    }
    return x;
  }

  /** "long digest()": beside what the other calls answer. */
  private static void promise22Digest() {
    for (int changes = 0; changes <= 5; changes++) {
      LifeLinks x = changed(changes);
      String page = changes > 1 ? "wanna:1720 ~" : "";
      Check.due("digest() behind " + changes, x.digest(), Check.digestByCalls(x, page));
    }
  }

  /**
   * "h is 1567, then for each of these numbers, in order, 31 times h, and it (as longs, wrapping):
   * of each ENTRY entry() for 0 to 7, the letters of its NAME, fits(), nearest(); of each two
   * ENTRIES (the first one first) two() for 0 to 4; lives() for 0 to 5; of each LIFE life() for 0
   * to 7, and its WEDDINGS; letters of THE PAGE, each by its code; what count() tells for 0 to 7."
   */
  private static void promise22DigestByHand() {
    LifeLinks x = Check.made("ba:1700;dc:1750.50");
    long[] numbers = {
        0, 1700, -1, 1, 1700, 1700, 0, 0, 'a', 0, -1,
        2, 1750, 50, 1, 1698, 1701, 1, 0, 'c', 0, -1,
        2, 0, 6, -1, 1,
        2, 0, 0, 0, 0, 2,
        0, -1, 0, 1700, 1700, 0, 1, 1700,
        -1, 1, 0, 1698, 1701, 0, 1, 1750,
        'w',
        2, 1, 0, 1, 1, 1, 0, 0};
    long h = 1567;
    for (long number : numbers) {
      h = 31 * h + number;
    }
    x.letter('w');
    Check.due("digest()", x.digest(), h);
  }

  /** "letters of THE PAGE, each by its code": another letter, another digest. */
  private static void promise22DigestChangesNothing() {
    LifeLinks x = Check.made("banna:1700;wana:1722.21;dhana:1760.59");
    Check.type(x, "w");
    long first = x.digest();
    Check.due("digest() again", x.digest(), first);
    Check.due("letter", x.letter('x'), 2);
    Check.holds("another page, another digest", x.digest() != first);
  }
}
