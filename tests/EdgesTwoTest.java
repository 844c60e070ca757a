/**
 * Promises 13 to 15 at their edges: for each sentence of the document that names a boundary case a
 * test of its own, with the sentence's words ahead of it.
 */
public final class EdgesTwoTest {
  private static final int NONE = LifeLinks.NONE;
  private static final int UNKNOWN = LifeLinks.UNKNOWN;
  private static final int OUTSIDE = LifeLinks.OUTSIDE;
  private static final int LAST = Edges.FULLEST - 1;

  public static void main(String[] args) {
    promise13Refusals();
    promise13Names();
    promise13WhyAlone();
    promise13WhyAndTheNextOne();
    promise13YearsAndWorth();
    promise14();
    promise15();
    Check.end();
  }

  private static void promise13Refusals() {
    promise13UnknownOne();
    promise13UnknownOther();
    promise13OneAndOtherTheSame();
    promise13BothUnknown();
    promise13OutsideWhat();
    promise13UnknownAheadOfOutside();
    promise13LeastAndGreatestNumbers();
  }

  private static void promise13Names() {
    promise13DistanceLeastAndGreatest();
    promise13LetterLeftOutOrPutIn();
    promise13OneMadeAnother();
    promise13OthersAlone();
    promise13LikenessAsInts();
    promise13LikenessOfTheLongerName();
    promise13ToldThoughTheyDoNotFit();
  }

  private static void promise13WhyAlone() {
    promise13Why1();
    promise13Why2();
    promise13Why3();
    promise13Why4Birth();
    promise13Why4Burial();
    promise13Why5AtEachEnd();
    promise13Why5WithAges();
    promise13Why6JustLeast();
    promise13Why6OneBelow();
    promise13Why6AtLeastZeroAndThousand();
  }

  private static void promise13WhyAndTheNextOne() {
    promise13Why1AheadOfOthers();
    promise13Why2AheadOfOthers();
    promise13Why3AheadOfOthers();
    promise13Why4AheadOfOthers();
    promise13Why5AheadOf6();
    promise13WhyAllBut();
  }

  private static void promise13YearsAndWorth() {
    promise13YearsZeroAndOne();
    promise13YearsMost();
    promise13WorthOfOneYear();
    promise13WorthAsInts();
    promise13WorthOfMostYears();
    promise13WorthNoneUnlessTheyFit();
  }

  private static void promise14() {
    promise14Unknown();
    promise14None();
    promise14AllOthers();
    promise14NotItself();
  }

  private static void promise15() {
    promise15Unknown();
    promise15NoneFits();
    promise15OneAlone();
    promise15OfSeveralTheLeastNumber();
    promise15OneMoreIsNearer();
    promise15FirstAndLast();
  }

  // ---- promise 13: refusals

  private static LifeLinks three() {
    return Check.made("banna:1700;wana:1722.21;dotto:1760");
  }

  /** "UNKNOWN: one". */
  private static void promise13UnknownOne() {
    LifeLinks x = three();
    Edges.refusedOutside(x, "two(.., 0, 0)", n -> x.two(n, 0, 0), UNKNOWN, 0, 2);
    LifeLinks full = Edges.fullest();
    Edges.refusedOutside(full, "two(.., 17, 4)", n -> full.two(n, LAST, 4), UNKNOWN, 0, LAST);
  }

  /** "UNKNOWN: .. other". */
  private static void promise13UnknownOther() {
    LifeLinks x = three();
    Edges.refusedOutside(x, "two(0, .., 0)", n -> x.two(0, n, 0), UNKNOWN, 0, 2);
    LifeLinks full = Edges.fullest();
    Edges.refusedOutside(full, "two(17, .., 4)", n -> full.two(LAST, n, 4), UNKNOWN, 0, LAST);
  }

  /** "(two unlike ENTRIES)". */
  private static void promise13OneAndOtherTheSame() {
    LifeLinks x = Edges.fullest();
    Edges.refused(x, "two of one and itself", n -> x.two(n, n, 0), UNKNOWN, 0, 1, 7, 16, LAST);
    Edges.refused(x, "two(3, 3, ..)", n -> x.two(3, 3, n), UNKNOWN, 0, 1, 2, 3, 4);
  }

  /** "UNKNOWN: one, other": both at once. */
  private static void promise13BothUnknown() {
    LifeLinks x = three();
    Edges.refusedOutside(x, "two of a far one and itself", n -> x.two(n, n, 0), UNKNOWN, 0, 2);
    Edges.refusedOutside(x, "two(.., 3, 0)", n -> x.two(n, 3, 0), UNKNOWN, 0, 2);
  }

  /** "OUTSIDE: what". */
  private static void promise13OutsideWhat() {
    LifeLinks x = three();
    Edges.refusedOutside(x, "two(0, 1, ..)", n -> x.two(0, 1, n), OUTSIDE, 0, 4);
    Edges.refusedOutside(x, "two(2, 0, ..)", n -> x.two(2, 0, n), OUTSIDE, 0, 4);
  }

  /** "of several the first as told by each call". */
  private static void promise13UnknownAheadOfOutside() {
    LifeLinks x = three();
    Edges.refusedOutside(x, "two(.., 0, 5)", n -> x.two(n, 0, 5), UNKNOWN, 0, 2);
    Edges.refusedOutside(x, "two(0, .., -1)", n -> x.two(0, n, -1), UNKNOWN, 0, 2);
    Edges.refused(x, "two(1, 1, ..)", n -> x.two(1, 1, n), UNKNOWN, -1, 5, Edges.FAR_ABOVE);
  }

  /** "ENTRIES have numbers from 0 as they came (18 at most)": the first and the last one. */
  private static void promise13LeastAndGreatestNumbers() {
    LifeLinks x = Edges.fullest();
    int[] wants = {0, 1000, 0, 1200, 1};
    for (int what = 0; what < wants.length; what++) {
      Check.due("two(0, 17, " + what + ")", x.two(0, LAST, what), wants[what]);
      Check.due("two(17, 0, " + what + ")", x.two(LAST, 0, what), wants[what]);
    }
    int[] next = {1, 500, 2, NONE, 99};
    for (int what = 0; what < next.length; what++) {
      Check.due("two(17, 15, " + what + ")", x.two(LAST, 15, what), next[what]);
      Check.due("two(15, 17, " + what + ")", x.two(15, LAST, what), next[what]);
    }
  }

  // ---- promise 13: names

  private static void names(String one, String other, int distance, int likeness) {
    LifeLinks x = Check.made("b" + one + ":1700;w" + other + ":1720");
    String both = one + ", " + other;
    Check.due("DISTANCE of " + both, x.two(0, 1, 0), distance);
    Check.due("DISTANCE the other way: " + both, x.two(1, 0, 0), distance);
    Check.due("LIKENESS of " + both, x.two(0, 1, 1), likeness);
    Check.due("LIKENESS the other way: " + both, x.two(1, 0, 1), likeness);
  }

  /** "the least of what all together COSTS": 0, and the most that two NAMES of 8 can cost. */
  private static void promise13DistanceLeastAndGreatest() {
    names("a", "a", 0, 1000);
    names("abcdefgh", "abcdefgh", 0, 1000);
    names("aaaaaaaa", "bbbbbbbb", 16, 0);
    names("a", "b", 2, 0);
    names("aaaaaaaa", "eeeeeeee", 8, 500);
  }

  /** "a letter left out, or put in, COSTS 2": at either end and in the middle. */
  private static void promise13LetterLeftOutOrPutIn() {
    names("anna", "nna", 2, 750);
    names("anna", "ann", 2, 750);
    names("anna", "ana", 2, 750);
    names("abcdefgh", "a", 14, 125);
    names("abcdefgh", "h", 14, 125);
    names("abcdefgh", "hbcdefg", 4, 750);
  }

  /** "one made another one COSTS 1 within a GROUP, else 2". */
  private static void promise13OneMadeAnother() {
    names("pit", "bit", 1, 834);
    names("pit", "rit", 2, 667);
    names("ska", "xce", 3, 500);
    names("zkz", "sqx", 3, 500);
    // Two of one GROUP and one left out COST less than two left out and one put in.
    names("bad", "pt", 4, 334);
  }

  /** "others alone": h, l, r are like no letter. */
  private static void promise13OthersAlone() {
    for (char other = 'a'; other <= 'z'; other++) {
      for (char alone : new char[] {'h', 'l', 'r'}) {
        int want = other == alone ? 0 : 2;
        names("" + alone, "" + other, want, want == 0 ? 1000 : 0);
      }
    }
  }

  /** "1000 - 1000 * DISTANCE / (2 * letters of the longer NAME), as ints": cut off ahead of it. */
  private static void promise13LikenessAsInts() {
    names("abcdefgh", "abkdefgh", 1, 938);
    names("abcdefg", "abkdefg", 1, 929);
    names("abcdef", "abkdef", 1, 917);
    names("abc", "abk", 1, 834);
    names("abc", "abr", 2, 667);
    names("ab", "ap", 1, 750);
  }

  /** "letters of the longer NAME". */
  private static void promise13LikenessOfTheLongerName() {
    names("a", "abcdefgh", 14, 125);
    names("abcdefg", "abcdefgh", 2, 875);
    names("a", "ab", 2, 500);
  }

  /** "NONE: they do not FIT" is of WORTH alone. */
  private static void promise13ToldThoughTheyDoNotFit() {
    LifeLinks x = Check.made("banna:1700;banne:1700;dotto:1600");
    int[] births = {1, 875, 1, NONE, 1};
    int[] early = {6, 250, 4, NONE, 0};
    for (int what = 0; what <= 4; what++) {
      Check.due("two(0, 1, " + what + ")", x.two(0, 1, what), births[what]);
      Check.due("two(2, 0, " + what + ")", x.two(2, 0, what), early[what]);
    }
  }

  // ---- promise 13: WHY

  private static void why(LifeLinks x, int want) {
    Check.due("two(0, 1, 2)", x.two(0, 1, 2), want);
    Check.due("two(1, 0, 2)", x.two(1, 0, 2), want);
    Check.due("fits(0)", x.fits(0), want == 0 ? 1 : 0);
    Check.due("nearest(1)", x.nearest(1), want == 0 ? 0 : NONE);
    Check.holds("WORTH of WHY " + want, (x.two(0, 1, 3) == NONE) == (want != 0));
  }

  private static void why(String text, int want) {
    why(Check.made(text), want);
    String[] both = text.split(";");
    why(Check.made(both[1] + ";" + both[0]), want);
  }

  private static void whyParted(String text, int want) {
    LifeLinks x = Check.made(text);
    x.part(0, 1);
    why(x, want);
    String[] both = text.split(";");
    LifeLinks y = Check.made(both[1] + ";" + both[0]);
    y.part(0, 1);
    why(y, want);
  }

  /** "1 both are BIRTHS": nothing else holds. */
  private static void promise13Why1() {
    why("banna:1700;banna:1700", 1);
  }

  /** "2 both are BURIALS": nothing else holds. */
  private static void promise13Why2() {
    why("danna:1700;danna:1700", 2);
    why("danna:1700;wanna:1700", 0);
    why("wanna:1700;wanna:1700", 0);
  }

  /** "3 they are PARTED": nothing else holds. */
  private static void promise13Why3() {
    whyParted("banna:1700;wanna:1720", 3);
    whyParted("wanna:1720;wanna:1720", 3);
    whyParted("wanna:1720;danna:1760", 3);
    why("wanna:1720;danna:1760", 0);
  }

  /** "4 one that is a BIRTH has a later YEAR than the other one": the same, one later, one earlier. */
  private static void promise13Why4Birth() {
    why("banna:1700;danna:1699.0", 4);
    why("banna:1700;danna:1700.0", 0);
    why("banna:1700;danna:1701.0", 0);
    why("banna:1700;wanna:1699", 4);
    why("banna:1700;wanna:1700", 5);
    why("banna:1899;danna:1600", 4);
  }

  /** "4 .. or one that is a BURIAL an earlier one": the same, one earlier, one later. */
  private static void promise13Why4Burial() {
    why("wanna:1700;danna:1699", 4);
    why("wanna:1700;danna:1700", 0);
    why("wanna:1700;danna:1701", 0);
    why("wanna:1700.20;danna:1699.19", 4);
  }

  /** "5 no year is BORN of both": a year less and a year more than the ends, without AGES. */
  private static void promise13Why5AtEachEnd() {
    why("banna:1700;wanna:1713", 5);
    why("banna:1700;wanna:1714", 0);
    why("banna:1700;wanna:1760", 0);
    why("banna:1700;wanna:1761", 5);
    why("banna:1700;danna:1800", 0);
    why("banna:1700;danna:1801", 5);
    why("wanna:1700;wanna:1746", 0);
    why("wanna:1700;wanna:1747", 5);
    why("wanna:1700;danna:1786", 0);
    why("wanna:1700;danna:1787", 5);
  }

  /** "5 no year is BORN of both": a year less and a year more than the ends, with AGES. */
  private static void promise13Why5WithAges() {
    why("banna:1700;wanna:1720.17", 5);
    why("banna:1700;wanna:1720.18", 0);
    why("banna:1700;wanna:1720.21", 0);
    why("banna:1700;wanna:1720.22", 5);
    why("banna:1700;danna:1760.57", 5);
    why("banna:1700;danna:1760.58", 0);
    why("banna:1700;danna:1760.61", 0);
    why("banna:1700;danna:1760.62", 5);
    why("wanna:1720.20;danna:1760.56", 5);
    why("wanna:1720.20;danna:1760.57", 0);
    why("wanna:1720.20;danna:1760.63", 0);
    why("wanna:1720.20;danna:1760.64", 5);
    why("wanna:1720.20;wanna:1714", 0);
    why("wanna:1720.20;wanna:1711", 5);
  }

  /** "6 their LIKENESS is less than LEAST (.. 600 at first)": 600 is not, 584 is the next below. */
  private static void promise13Why6JustLeast() {
    LifeLinks x = Check.made("babcde:1700;wabcff:1720");
    Check.due("LIKENESS", x.two(0, 1, 1), 600);
    why("babcde:1700;wabcff:1720", 0);
    LifeLinks y = Check.made("baaaaaa:1700;waeeeha:1720");
    Check.due("LIKENESS", y.two(0, 1, 1), 584);
    why("baaaaaa:1700;waeeeha:1720", 6);
  }

  /** "6 their LIKENESS is less than LEAST": at just LEAST and one below it. */
  private static void promise13Why6OneBelow() {
    String[] others = {"anna", "enna", "ana", "enne", "hanna", "otna"};
    int[] likeness = {1000, 875, 750, 750, 800, 625};
    for (int k = 0; k < others.length; k++) {
      LifeLinks x = Check.made("banna:1700;w" + others[k] + ":1720");
      Check.due("LIKENESS of " + others[k], x.two(0, 1, 1), likeness[k]);
      x.bound(0, likeness[k]);
      why(x, 0);
      x.bound(0, Math.min(1000, likeness[k] + 1));
      why(x, likeness[k] == 1000 ? 0 : 6);
    }
  }

  /** "LEAST (0 to 1000 ..)": at 0 all NAMES FIT, at 1000 none but the same. */
  private static void promise13Why6AtLeastZeroAndThousand() {
    LifeLinks x = Check.made("ba:1700;wbbbbbbbb:1720");
    x.bound(0, 0);
    why(x, 0);
    x.bound(0, 1);
    why(x, 6);
    LifeLinks y = Check.made("babcdefgh:1700;wabcdefgj:1720;wabcdefgh:1720");
    y.bound(0, 1000);
    Check.due("two(0, 1, 2)", y.two(0, 1, 2), 6);
    Check.due("two(0, 2, 2)", y.two(0, 2, 2), 0);
  }

  /** "the first one of these that holds": 1, and each one behind it. */
  private static void promise13Why1AheadOfOthers() {
    whyParted("banna:1700;banna:1700", 1);
    why("banna:1700;banna:1701", 1);
    why("banna:1700;botto:1700", 1);
    whyParted("banna:1700;botto:1801", 1);
  }

  /** "the first one of these that holds": 2, and each one behind it. */
  private static void promise13Why2AheadOfOthers() {
    whyParted("danna:1700;danna:1700", 2);
    why("danna:1700;danna:1701", 2);
    why("danna:1700.0;danna:1700.50", 2);
    why("danna:1700;dotto:1700", 2);
    whyParted("danna:1700;dotto:1801", 2);
  }

  /** "the first one of these that holds": 3, and each one behind it. */
  private static void promise13Why3AheadOfOthers() {
    whyParted("wanna:1700;danna:1699", 3);
    whyParted("banna:1700;danna:1699.0", 3);
    whyParted("banna:1700;wanna:1710", 3);
    whyParted("banna:1700;wotto:1720", 3);
    whyParted("banna:1700;wotto:1690", 3);
  }

  /** "the first one of these that holds": 4, and each one behind it. */
  private static void promise13Why4AheadOfOthers() {
    why("banna:1700;wanna:1699", 4);
    why("wanna:1700;danna:1600", 4);
    why("wanna:1700;dotto:1699", 4);
    why("banna:1700;dotto:1600", 4);
  }

  /** "the first one of these that holds": 5, and 6. */
  private static void promise13Why5AheadOf6() {
    why("banna:1700;wotto:1713", 5);
    why("banna:1700;wotto:1714", 6);
    why("banna:1700;dotto:1801", 5);
    why("banna:1700;dotto:1800", 6);
  }

  /** "the first one of these that holds": all that can hold, less and less of them. */
  private static void promise13WhyAllBut() {
    LifeLinks x = Check.made("banna:1750;wotto:1700;wotto:1760;wotto:1780;wanna:1780");
    for (int other = 1; other <= 4; other++) {
      x.part(0, other);
    }
    for (int other = 1; other <= 4; other++) {
      Check.due("parted: two(0, " + other + ", 2)", x.two(0, other, 2), 3);
      x.part(other, 0);
    }
    Check.due("too early, no year, unlike", x.two(0, 1, 2), 4);
    Check.due("no year, unlike", x.two(0, 2, 2), 5);
    Check.due("unlike", x.two(0, 3, 2), 6);
    Check.due("they FIT", x.two(0, 4, 2), 0);
  }

  // ---- promise 13: years BORN of both, and WORTH

  private static void years(String text, int want) {
    LifeLinks x = Check.made(text);
    Check.due("years of both: " + text, x.two(0, 1, 4), want);
    Check.due("years the other way: " + text, x.two(1, 0, 4), want);
  }

  /** "4 how many years are BORN of both": 0 and 1, at either end. */
  private static void promise13YearsZeroAndOne() {
    years("ba:1700;ba:1700", 1);
    years("ba:1700;ba:1701", 0);
    years("ba:1600;ba:1899", 0);
    years("ba:1700;wa:1713", 0);
    years("ba:1700;wa:1714", 1);
    years("ba:1700;wa:1760", 1);
    years("ba:1700;wa:1761", 0);
    years("ba:1700;da:1699", 0);
    years("ba:1700;da:1700", 1);
    years("ba:1700;da:1800", 1);
    years("ba:1700;da:1801", 0);
    years("wa:1720.20;da:1760.57", 1);
    years("wa:1720.20;da:1760.56", 0);
    years("wa:1720.20;da:1760.63", 1);
    years("wa:1720.20;da:1760.64", 0);
    years("da:1700;da:1800", 1);
    years("da:1700;da:1801", 0);
    years("wa:1600;da:1899", 0);
  }

  /** "4 how many years are BORN of both": the most there can be. */
  private static void promise13YearsMost() {
    years("da:1700;da:1700", 101);
    years("wa:1700;wa:1700", 47);
    years("wa:1700;da:1700", 47);
    years("wa:1700;da:1740", 47);
    years("wa:1700;da:1741", 46);
    years("wa:1720.20;da:1760.60", 4);
    LifeLinks x = Check.made("wa:1720.20;da:1760.60");
    x.bound(1, 5);
    Check.due("SLACK 5", x.two(0, 1, 4), 12);
    x.bound(1, 0);
    Check.due("SLACK 0", x.two(0, 1, 4), 2);
  }

  private static void worth(String text, int want) {
    LifeLinks x = Check.made(text);
    Check.due("WORTH of " + text, x.two(0, 1, 3), want);
    Check.due("WORTH the other way of " + text, x.two(1, 0, 3), want);
  }

  /** "LIKENESS + 200 / (how many years are BORN of both)": one year. */
  private static void promise13WorthOfOneYear() {
    worth("banna:1700;danna:1700", 1200);
    worth("banna:1700;danna:1800", 1200);
    worth("banna:1700;wanna:1714", 1200);
    worth("wanna:1720.20;danna:1760.57", 1200);
    worth("babcde:1700;wabcff:1720", 800);
  }

  /** "200 / (how many years are BORN of both), as ints". */
  private static void promise13WorthAsInts() {
    int[] bonus = {200, 100, 66, 50, 40, 33, 28, 25, 22, 20, 18, 16, 15, 14, 13, 12, 11, 11, 10};
    for (int years = 1; years <= bonus.length; years++) {
      worth("wanna:1700;danna:" + (1787 - years), 1000 + bonus[years - 1]);
    }
  }

  /** "200 / (how many years are BORN of both)": the most years of two that can FIT. */
  private static void promise13WorthOfMostYears() {
    worth("wanna:1700;danna:1700", 1004);
    worth("wanna:1700;wanna:1700", 1004);
    worth("wanna:1700;danna:1747", 1005);
    LifeLinks x = Check.made("wa:1700;wb:1700");
    x.bound(0, 0);
    Check.due("WORTH of a LIKENESS of 0", x.two(0, 1, 3), 4);
  }

  /** "3 WORTH (NONE: they do not FIT)": for each WHY. */
  private static void promise13WorthNoneUnlessTheyFit() {
    worth("banna:1700;banna:1700", NONE);
    worth("danna:1700;danna:1700", NONE);
    worth("wanna:1700;danna:1699", NONE);
    worth("banna:1700;wanna:1713", NONE);
    worth("banna:1700;wotto:1720", NONE);
    LifeLinks x = Check.made("banna:1700;wanna:1720");
    x.part(0, 1);
    Check.due("two(0, 1, 3), parted", x.two(0, 1, 3), NONE);
    x.part(0, 1);
    Check.due("two(0, 1, 3)", x.two(0, 1, 3), 1200);
  }

  // ---- promise 14

  /** "UNKNOWN: entry". */
  private static void promise14Unknown() {
    LifeLinks x = three();
    Edges.refusedOutside(x, "fits", x::fits, UNKNOWN, 0, 2);
    LifeLinks full = Edges.fullest();
    Edges.refusedOutside(full, "fits", full::fits, UNKNOWN, 0, LAST);
  }

  /** "The number of other ENTRIES that FIT one": none. */
  private static void promise14None() {
    LifeLinks x = Check.made("banna:1700;banna:1700;botto:1700");
    for (int entry = 0; entry < 3; entry++) {
      Check.due("fits(" + entry + ")", x.fits(entry), 0);
    }
  }

  /** "The number of other ENTRIES that FIT one": all of 17. */
  private static void promise14AllOthers() {
    LifeLinks x = Check.made(Edges.SEVEN_BIRTHS, Edges.SEVEN_BIRTHS.replace("ba:170", "wa:172"),
        "da:1760;da:1761;da:1762;da:1763");
    for (int entry = 0; entry < Edges.FULLEST; entry++) {
      // 1720 less 14 is 1706: each wedding fits each birth.
      int want = entry < 7 ? 11 : entry < 14 ? 17 : 14;
      Check.due("fits(" + entry + ")", x.fits(entry), want);
    }
    x.part(7, LAST);
    Check.due("fits(7), parted from one", x.fits(7), 16);
    Check.due("fits(17), parted from one", x.fits(LAST), 13);
  }

  /** "other ENTRIES": not itself, though a WEDDING has no WHY with one like it. */
  private static void promise14NotItself() {
    LifeLinks x = Check.made("wanna:1700");
    Check.due("fits(0) of one alone", x.fits(0), 0);
    Check.enter(x, "wanna:1700");
    Check.due("fits(0) of two alike", x.fits(0), 1);
    Check.due("fits(1) of two alike", x.fits(1), 1);
  }

  // ---- promise 15

  /** "UNKNOWN: entry". */
  private static void promise15Unknown() {
    LifeLinks x = three();
    Edges.refusedOutside(x, "nearest", x::nearest, UNKNOWN, 0, 2);
    LifeLinks full = Edges.fullest();
    Edges.refusedOutside(full, "nearest", full::nearest, UNKNOWN, 0, LAST);
  }

  /** "NONE: none FITS". */
  private static void promise15NoneFits() {
    LifeLinks x = three();
    Check.due("nearest(0)", x.nearest(0), 1);
    Check.due("nearest(2)", x.nearest(2), NONE);
    x.part(0, 1);
    Check.due("nearest(0), parted", x.nearest(0), NONE);
    Check.due("nearest(1), parted", x.nearest(1), NONE);
  }

  /** "Of the others": not itself. */
  private static void promise15OneAlone() {
    LifeLinks x = Check.made("wanna:1700");
    Check.due("nearest(0) of one alone", x.nearest(0), NONE);
    Check.enter(x, "wotto:1700");
    Check.due("nearest(0)", x.nearest(0), NONE);
    Check.enter(x, "wanna:1720");
    Check.due("nearest(0)", x.nearest(0), 2);
  }

  /** "(of several the least number)": ahead of it, behind it, and on both sides. */
  private static void promise15OfSeveralTheLeastNumber() {
    LifeLinks x = Check.made("banna:1700;wanna:1720;banna:1701;wanna:1721;banna:1702");
    Check.due("nearest(0)", x.nearest(0), 1);
    Check.due("nearest(1)", x.nearest(1), 0);
    Check.due("nearest(2)", x.nearest(2), 1);
    Check.due("nearest(3)", x.nearest(3), 0);
    Check.due("nearest(4)", x.nearest(4), 1);
    x.strike(0);
    Check.due("nearest(0)", x.nearest(0), 1);
    Check.due("nearest(2)", x.nearest(2), 1);
    Check.due("nearest(3)", x.nearest(3), 0);
  }

  /** "by which its WORTH is greatest": by 1, ahead and behind. */
  private static void promise15OneMoreIsNearer() {
    LifeLinks x = Check.made("danna:1773;wanna:1700;danna:1774");
    Check.due("two(0, 1, 3)", x.two(0, 1, 3), 1014);
    Check.due("two(1, 2, 3)", x.two(1, 2, 3), 1015);
    Check.due("nearest(1)", x.nearest(1), 2);
    LifeLinks y = Check.made("danna:1774;wanna:1700;danna:1773");
    Check.due("nearest(1)", y.nearest(1), 0);
  }

  /** "of the others .. the one": the first number and the last one. */
  private static void promise15FirstAndLast() {
    LifeLinks x = Edges.fullest();
    Check.due("nearest(17)", x.nearest(LAST), 0);
    for (int birth = 1; birth < 7; birth++) {
      x.part(birth, LAST);
    }
    for (int wedding = 7; wedding < 14; wedding++) {
      x.part(wedding, LAST);
    }
    Check.due("nearest(17), one is left", x.nearest(LAST), 0);
    x.part(0, LAST);
    Check.due("nearest(17), none is left", x.nearest(LAST), NONE);
    LifeLinks y = Edges.fullest();
    for (int other = 7; other < LAST; other++) {
      y.part(0, other);
    }
    Check.due("nearest(0), the last one is left", y.nearest(0), LAST);
  }
}
