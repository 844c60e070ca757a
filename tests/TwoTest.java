/** Promises 13 to 15: two, fits, nearest. */
public final class TwoTest {
  private static final int NONE = LifeLinks.NONE;
  private static final int UNKNOWN = LifeLinks.UNKNOWN;
  private static final int OUTSIDE = LifeLinks.OUTSIDE;
  private static final int[] FAR = {-1, -2, 18, 19, Integer.MIN_VALUE, Integer.MAX_VALUE};
  private static final String[] GROUPS =
      {"bp", "ckq", "dt", "fvw", "gj", "iy", "mn", "sxz", "aeou"};

  public static void main(String[] args) {
    promise13DistanceOfLetters();
    promise13DistanceOfNames();
    promise13Likeness();
    promise13Why();
    promise13WhyFirstOfSeveral();
    promise13Years();
    promise13Worth();
    promise13Refusals();
    promise14Fits();
    promise15Nearest();
    promise15NearestOfSeveral();
    Check.end();
  }

  private static boolean inOneGroup(char one, char other) {
    for (String group : GROUPS) {
      if (group.indexOf(one) >= 0 && group.indexOf(other) >= 0) {
        return true;
      }
    }
    return false;
  }

  /**
   * "int two(int one, int other, int what): Of two ENTRIES: what = 0 DISTANCE": of NAMES of one
   * letter.
   */
  private static void promise13DistanceOfLetters() {
    for (char one = 'a'; one <= 'z'; one++) {
      for (char other = 'a'; other <= 'z'; other++) {
        LifeLinks x = Check.made("b" + one + ":1700;d" + other + ":1701");
        int want = one == other ? 0 : inOneGroup(one, other) ? 1 : 2;
        Check.due("DISTANCE of " + one + " and " + other, x.two(0, 1, 0), want);
      }
    }
  }

  private static void names(String one, String other, int distance, int likeness) {
    LifeLinks x = Check.made("b" + one + ":1700;w" + other + ":1720");
    String both = one + ", " + other;
    Check.due("DISTANCE of " + both, x.two(0, 1, 0), distance);
    Check.due("DISTANCE the other way: " + both, x.two(1, 0, 0), distance);
    Check.due("LIKENESS of " + both, x.two(0, 1, 1), likeness);
    Check.due("LIKENESS the other way: " + both, x.two(1, 0, 1), likeness);
  }

  /** "Of two ENTRIES: what = 0 DISTANCE, 1 LIKENESS". */
  private static void promise13DistanceOfNames() {
    names("anna", "anna", 0, 1000);
    names("anna", "ana", 2, 750);
    names("anna", "hanna", 2, 800);
    names("hana", "anna", 4, 500);
    names("pit", "bit", 1, 834);
    names("pit", "bid", 2, 667);
    names("a", "abcdefgh", 14, 125);
    names("b", "aaaaaaaa", 16, 0);
    names("abcdefgh", "abcdefgh", 0, 1000);
    names("abcdefgh", "bcdefgha", 4, 750);
    names("rlhr", "aeio", 8, 0);
    names("katarina", "catrin", 5, 688);
    names("joseph", "giuseppe", 8, 500);
    names("ab", "ba", 4, 0);
  }

  /** "1 LIKENESS": as ints. */
  private static void promise13Likeness() {
    names("abc", "abd", 2, 667);
    names("abcdefg", "abcdeff", 2, 858);
    names("abcdefg", "abcdefj", 1, 929);
    names("abcdefg", "abcdef", 2, 858);
    names("abcdef", "abcdefgh", 4, 750);
  }

  private static void why(String one, String other, int want) {
    LifeLinks x = Check.made(one + ";" + other);
    Check.due("WHY of " + one + ", " + other, x.two(0, 1, 2), want);
    Check.due("WHY the other way: " + one + ", " + other, x.two(1, 0, 2), want);
    Check.due("whether " + one + ", " + other + " FIT", x.fits(0), want == 0 ? 1 : 0);
    Check.due("NONE unless they FIT", x.two(0, 1, 3) == NONE ? 1 : 0, want == 0 ? 0 : 1);
  }

  /** "1 LIKENESS, 2 WHY (0: they FIT), 3 WORTH (NONE: they do not FIT)". */
  private static void promise13Why() {
    why("banna:1700", "banna:1700", 1);
    why("danna:1700", "danna:1700", 2);
    why("wanna:1700", "wanna:1700", 0);
    why("wanna:1700", "wanna:1746", 0);
    why("wanna:1700", "wanna:1747", 5);
    why("banna:1700", "wanna:1699", 4);
    why("banna:1700", "danna:1699", 4);
    why("banna:1700", "danna:1700", 0);
    why("banna:1700", "danna:1800", 0);
    why("banna:1700", "danna:1801", 5);
    why("danna:1700", "wanna:1701", 4);
    why("danna:1700", "wanna:1700", 0);
    why("banna:1700", "wanna:1700", 5);
    why("banna:1700", "wanna:1713", 5);
    why("banna:1700", "wanna:1714", 0);
    why("banna:1700", "wanna:1760", 0);
    why("banna:1700", "wanna:1761", 5);
    why("banna:1700", "wanna:1720.18", 0);
    why("banna:1700", "wanna:1720.17", 5);
    why("banna:1700", "wanna:1720.21", 0);
    why("banna:1700", "wanna:1720.22", 5);
    why("banna:1700", "danna:1700.0", 0);
    why("wanna:1720.20", "danna:1770.67", 0);
    why("wanna:1720.20", "danna:1770.66", 5);
    why("bab:1700", "wac:1720", 6);
    why("babcde:1700", "wabcff:1720", 0);
    why("babcde:1700", "wabffe:1720", 0);
    why("babcde:1700", "wahffe:1720", 6);
  }

  /** "the first one of these that holds". */
  private static void promise13WhyFirstOfSeveral() {
    LifeLinks x = Check.made("banna:1700;bober:1750;wober:1690;danna:1689;dober:1660");
    x.part(0, 1);
    Check.due("births, parted", x.two(0, 1, 2), 1);
    x.part(3, 4);
    Check.due("burials, parted", x.two(4, 3, 2), 2);
    Check.due("too early, no year, unlike", x.two(0, 2, 2), 4);
    x.part(0, 2);
    Check.due("parted, too early, no year, unlike", x.two(0, 2, 2), 3);
    Check.due("a burial too early, unlike", x.two(2, 3, 2), 4);
    LifeLinks y = Check.made("banna:1700;wober:1710;wanna:1714;wober:1714");
    Check.due("no year, unlike", y.two(0, 1, 2), 5);
    Check.due("unlike", y.two(0, 3, 2), 6);
    y.part(2, 0);
    Check.due("parted alone", y.two(0, 2, 2), 3);
  }

  private static void years(String one, String other, int want) {
    LifeLinks x = Check.made(one + ";" + other);
    Check.due("years of both: " + one + ", " + other, x.two(0, 1, 4), want);
    Check.due("years the other way: " + one + ", " + other, x.two(1, 0, 4), want);
  }

  /** "4 how many years are BORN of both." */
  private static void promise13Years() {
    years("ba:1700", "ba:1700", 1);
    years("ba:1700", "ba:1701", 0);
    years("ba:1600", "ba:1899", 0);
    years("da:1700", "da:1700", 101);
    years("da:1700", "da:1800", 1);
    years("da:1700", "da:1801", 0);
    years("wa:1700", "wa:1700", 47);
    years("wa:1700", "wa:1720", 27);
    years("wa:1720.20", "da:1770.70", 4);
    years("wa:1720.20", "da:1770.68", 2);
    years("wa:1720.20", "da:1770.72", 2);
    years("wa:1720", "da:1790.99", 4);
    years("wa:1720", "da:1720", 47);
  }

  private static void worth(String one, String other, int want) {
    LifeLinks x = Check.made(one + ";" + other);
    Check.due("WORTH of " + one + ", " + other, x.two(0, 1, 3), want);
    Check.due("WORTH the other way: " + one + ", " + other, x.two(1, 0, 3), want);
  }

  /** "3 WORTH (NONE: they do not FIT)". */
  private static void promise13Worth() {
    worth("banna:1700", "danna:1760", 1200);
    worth("banna:1700", "wana:1720", 950);
    worth("wanna:1720.20", "danna:1770.70", 1050);
    worth("wanna:1720.20", "danna:1770.69", 1066);
    worth("wpit:1720.20", "dbit:1770.68", 934);
    worth("wanna:1720", "wanna:1720", 1004);
    worth("wanna:1720", "danna:1720", 1004);
    worth("banna:1700", "banna:1700", NONE);
    worth("banna:1700", "wanna:1700", NONE);
    worth("bober:1700", "danna:1760", NONE);
    LifeLinks x = Check.made("wb:1700;waaaaaaa:1701");
    x.bound(0, 0);
    Check.due("LIKENESS 0", x.two(0, 1, 1), 0);
    Check.due("WHY at LEAST 0", x.two(0, 1, 2), 0);
    Check.due("WORTH at LEAST 0", x.two(0, 1, 3), 4);
  }

  /** "UNKNOWN: one, other (two unlike ENTRIES); OUTSIDE: what." */
  private static void promise13Refusals() {
    LifeLinks x = Check.made("banna:1700;danna:1760");
    for (int far : FAR) {
      Check.due("two(0, " + far + ", 0)", x.two(0, far, 0), UNKNOWN);
      Check.due("two(" + far + ", 0, 0)", x.two(far, 0, 0), UNKNOWN);
      Check.due("two(" + far + ", 0, 5)", x.two(far, 0, 5), UNKNOWN);
      Check.due("two(0, 1, " + far + ")", x.two(0, 1, far), OUTSIDE);
    }
    Check.due("two(0, 2, 0)", x.two(0, 2, 0), UNKNOWN);
    Check.due("two(2, 0, 0)", x.two(2, 0, 0), UNKNOWN);
    Check.due("two(1, 1, 0)", x.two(1, 1, 0), UNKNOWN);
    Check.due("two(1, 1, 5)", x.two(1, 1, 5), UNKNOWN);
    Check.due("two(0, 1, 5)", x.two(0, 1, 5), OUTSIDE);
    Check.due("two(0, 1, -1)", x.two(0, 1, -1), OUTSIDE);
  }

  /** "int fits(int entry): The number of other ENTRIES that FIT one. UNKNOWN: entry." */
  private static void promise14Fits() {
    LifeLinks x = Check.made("banna:1700;danna:1760;wana:1720;wober:1720;banne:1705");
    int[] wants = {2, 3, 3, 0, 2};
    for (int entry = 0; entry < wants.length; entry++) {
      Check.due("fits(" + entry + ")", x.fits(entry), wants[entry]);
    }
    for (int far : FAR) {
      Check.due("fits(" + far + ")", x.fits(far), UNKNOWN);
    }
    Check.due("fits(5)", x.fits(5), UNKNOWN);
    Check.due("fits of one alone", Check.made("wa:1700").fits(0), 0);
  }

  /**
   * "int nearest(int entry): Of the others that FIT an ENTRY the one by which its WORTH is
   * greatest; NONE: none FITS. UNKNOWN: entry."
   */
  private static void promise15Nearest() {
    LifeLinks x = Check.made("banna:1700;danne:1760;wana:1720;wober:1720;wanna:1721");
    Check.due("nearest(0)", x.nearest(0), 4);
    Check.due("nearest(1)", x.nearest(1), 0);
    Check.due("nearest(2)", x.nearest(2), 0);
    Check.due("nearest(3)", x.nearest(3), NONE);
    Check.due("nearest(4)", x.nearest(4), 0);
    x.part(0, 4);
    Check.due("nearest(0), parted", x.nearest(0), 1);
    for (int far : FAR) {
      Check.due("nearest(" + far + ")", x.nearest(far), UNKNOWN);
    }
    Check.due("nearest(5)", x.nearest(5), UNKNOWN);
    Check.due("nearest of one alone", Check.made("wa:1700").nearest(0), NONE);
  }

  /** "(of several the least number)". */
  private static void promise15NearestOfSeveral() {
    LifeLinks x = Check.made("wana:1719;wanna:1720;wanna:1721;banna:1700;banna:1699");
    Check.due("nearest(3)", x.nearest(3), 1);
    Check.due("nearest(4)", x.nearest(4), 1);
    Check.due("nearest(1)", x.nearest(1), 3);
    Check.due("nearest(0)", x.nearest(0), 3);
    x.part(1, 3);
    Check.due("nearest(3), parted", x.nearest(3), 2);
    Check.due("nearest(1), parted", x.nearest(1), 4);
  }
}
