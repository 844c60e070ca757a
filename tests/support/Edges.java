/** What the tests of the edges use: far off numbers, calls that are refused, the fullest register. */
final class Edges {
  static final int FAR_BELOW = Integer.MIN_VALUE;
  static final int FAR_ABOVE = Integer.MAX_VALUE;

  // Seven BIRTHS (0 to 6), seven WEDDINGS (7 to 13) and four BURIALS (14 to 17).
  static final String SEVEN_BIRTHS = "ba:1700;ba:1701;ba:1702;ba:1703;ba:1704;ba:1705;ba:1706";
  static final String SEVEN_WEDDINGS = "wa:1720;we:1721;wa:1722;wo:1723;wa:1724;wa:1725;wa:1726";
  static final String FOUR_BURIALS = "da:1760;de:1761;do:1762.60;da:1763";
  static final int FULLEST = 18;

  /** A call with one number left open. */
  interface Call {
    long with(int number);
  }

  private Edges() {
  }

  /** The fullest register: 18 ENTRIES, seven of two KINDS. */
  static LifeLinks fullest() {
    return Check.made(SEVEN_BIRTHS, SEVEN_WEDDINGS, FOUR_BURIALS);
  }

  /** The call is refused for each of these numbers, and changes nothing. */
  static void refused(LifeLinks x, String name, Call call, int want, int... numbers) {
    long before = x.digest();
    for (int number : numbers) {
      Check.due(name + " with " + number, call.with(number), want);
      Check.due("digest() behind " + name + " with " + number, x.digest(), before);
    }
  }

  /** The call is refused, and changes nothing, for numbers just and far outside of least to greatest. */
  static void refusedOutside(
      LifeLinks x, String name, Call call, int want, int least, int greatest) {
    refused(x, name, call, want, least - 1, greatest + 1, FAR_BELOW, FAR_ABOVE);
  }
}
