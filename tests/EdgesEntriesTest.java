/**
 * Promises 6 to 12 at their edges: for each sentence of the document that names a boundary case a
 * test of its own, with the sentence's words ahead of it.
 */
public final class EdgesEntriesTest {
  private static final int NONE = LifeLinks.NONE;
  private static final int UNKNOWN = LifeLinks.UNKNOWN;
  private static final int OUTSIDE = LifeLinks.OUTSIDE;
  private static final int FULL = LifeLinks.FULL;
  private static final int LAST = Edges.FULLEST - 1;

  public static void main(String[] args) {
    promise6();
    promise7();
    promise8();
    promise9();
    promise10();
    promise11();
    promise12();
    Check.end();
  }

  private static void promise6() {
    promise6UnknownEntry();
    promise6LeastAndGreatestEntry();
    promise6OutsideWhat();
    promise6LeastAndGreatestWhat();
    promise6UnknownAheadOfOutside();
    promise6NameOfOneAndOfEight();
    promise6YearOf1600AndOf1899();
    promise6AgeOrNone();
    promise6BornOfBirth();
    promise6BornOfWeddingWithoutAge();
    promise6BornOfBurialWithoutAge();
    promise6BornWithAgeAndSlack();
    promise6BornWithLeastAndGreatestAge();
    promise6LifeOfEachKind();
    promise6LifeNoneIfDoubtful();
  }

  private static void promise7() {
    promise7UnknownEntry();
    promise7UnknownPlace();
    promise7UnknownBoth();
    promise7FirstAndLastPlace();
    promise7LettersOfWhoWasThereBefore();
  }

  private static void promise8() {
    promise8UnknownEntry();
    promise8OutsideKind();
    promise8UnknownAheadOfOutside();
    promise8EachKind();
    promise8NoneOfTheOthers();
  }

  private static void promise9() {
    promise9Unknown();
    promise9TheFirst();
    promise9TheLast();
    promise9TheOnlyOne();
    promise9AllOfEighteen();
    promise9NumbersOfThoseBehind();
    promise9PartedFromNobody();
    promise9PartedOnesHaveOtherNumbers();
  }

  private static void promise10() {
    promise10Unknown();
    promise10OutsideOfBirth();
    promise10OutsideOfWedding();
    promise10OutsideOfBurial();
    promise10UnknownAheadOfOutside();
    promise10BirthNone();
    promise10WeddingBounds();
    promise10BurialBounds();
    promise10NoneAndZeroAreUnlike();
    promise10EachAge();
  }

  private static void promise11() {
    promise11UnknownOne();
    promise11UnknownOther();
    promise11OneAndOtherTheSame();
    promise11BothUnknown();
    promise11AndNotAnyMore();
    promise11EitherWayRound();
    promise11FirstAndLast();
    promise11AllOfEighteen();
  }

  private static void promise12() {
    promise12OutsideWhat();
    promise12OutsideLeast();
    promise12OutsideSlack();
    promise12OutsideDoubt();
    promise12OutsideBoth();
    promise12WhichItWas();
    promise12EachValue();
    promise12LeastZero();
    promise12LeastThousand();
    promise12SlackZero();
    promise12SlackFive();
    promise12DoubtZero();
    promise12DoubtFiveHundred();
  }

  private static void told(LifeLinks x, int entry, int... wants) {
    for (int what = 0; what < wants.length; what++) {
      Check.due("entry(" + entry + ", " + what + ")", x.entry(entry, what), wants[what]);
    }
  }

  private static void born(LifeLinks x, int entry, int first, int last) {
    Check.due("first year BORN of " + entry, x.entry(entry, 4), first);
    Check.due("last year BORN of " + entry, x.entry(entry, 5), last);
  }

  private static LifeLinks three() {
    return Check.made("banna:1700;wana:1722.21;dotto:1760");
  }

  // ---- promise 6

  /** "UNKNOWN: entry". */
  private static void promise6UnknownEntry() {
    LifeLinks x = three();
    Edges.refusedOutside(x, "entry(.., 0)", n -> x.entry(n, 0), UNKNOWN, 0, 2);
    LifeLinks full = Edges.fullest();
    Edges.refusedOutside(full, "entry(.., 7)", n -> full.entry(n, 7), UNKNOWN, 0, LAST);
    LifeLinks one = Check.made("wa:1700");
    Edges.refusedOutside(one, "entry(.., 1)", n -> one.entry(n, 1), UNKNOWN, 0, 0);
  }

  /** "ENTRIES have numbers from 0 as they came (18 at most)". */
  private static void promise6LeastAndGreatestEntry() {
    LifeLinks x = Edges.fullest();
    told(x, 0, 0, 1700, NONE, 1, 1700, 1700, 0, 0);
    told(x, LAST, 2, 1763, NONE, 1, 1663, 1763);
    told(x, 6, 0, 1706);
    told(x, 7, 1, 1720);
    told(x, 13, 1, 1726);
    told(x, 14, 2, 1760);
  }

  /** "OUTSIDE: what". */
  private static void promise6OutsideWhat() {
    LifeLinks x = three();
    for (int entry = 0; entry < 3; entry++) {
      int one = entry;
      Edges.refusedOutside(x, "entry(" + one + ", ..)", n -> x.entry(one, n), OUTSIDE, 0, 7);
    }
  }

  /** "what = 0 KIND" to "7 whether it is DOUBTFUL". */
  private static void promise6LeastAndGreatestWhat() {
    LifeLinks x = three();
    Check.due("entry(1, 0)", x.entry(1, 0), 1);
    Check.due("entry(2, 0)", x.entry(2, 0), 2);
    Check.due("entry(1, 7)", x.entry(1, 7), 0);
    x.bound(2, 0);
    Check.enter(x, "banna:1700");
    Check.due("entry(1, 7) of a doubtful one", x.entry(1, 7), 1);
  }

  /** "of several the first as told by each call". */
  private static void promise6UnknownAheadOfOutside() {
    LifeLinks x = three();
    Edges.refusedOutside(x, "entry(.., 8)", n -> x.entry(n, 8), UNKNOWN, 0, 2);
    Edges.refusedOutside(x, "entry(.., -1)", n -> x.entry(n, -1), UNKNOWN, 0, 2);
    Edges.refused(x, "entry(3, ..)", n -> x.entry(3, n), UNKNOWN, -1, 8, Edges.FAR_BELOW);
  }

  /** "3 how many letters its NAME has". */
  private static void promise6NameOfOneAndOfEight() {
    LifeLinks x = Check.made("ba:1700;wabcdefgh:1700;dz:1700");
    Check.due("entry(0, 3)", x.entry(0, 3), 1);
    Check.due("entry(1, 3)", x.entry(1, 3), 8);
    Check.due("entry(2, 3)", x.entry(2, 3), 1);
  }

  /** "a YEAR (1600 to 1899)". */
  private static void promise6YearOf1600AndOf1899() {
    LifeLinks x = Check.made("ba:1600;wa:1600;da:1600;ba:1899;wa:1899;da:1899");
    for (int entry = 0; entry < 6; entry++) {
      Check.due("entry(" + entry + ", 1)", x.entry(entry, 1), entry < 3 ? 1600 : 1899);
    }
  }

  /** "2 AGE (NONE)". */
  private static void promise6AgeOrNone() {
    LifeLinks x = Check.made("ba:1700;wa:1700;wa:1700.14;wa:1700.99", "da:1700;da:1700.0;da:1700.99");
    int[] ages = {NONE, NONE, 14, 99, NONE, 0, 99};
    for (int entry = 0; entry < ages.length; entry++) {
      Check.due("entry(" + entry + ", 2)", x.entry(entry, 2), ages[entry]);
    }
  }

  /** "BORN of an ENTRY .. of a BIRTH its YEAR": whatever SLACK is. */
  private static void promise6BornOfBirth() {
    LifeLinks x = Check.made("ba:1600;ba:1899");
    for (int slack : new int[] {1, 0, 5}) {
      x.bound(1, slack);
      born(x, 0, 1600, 1600);
      born(x, 1, 1899, 1899);
    }
  }

  /** "else of a WEDDING YEAR less 60 to YEAR less 14": whatever SLACK is. */
  private static void promise6BornOfWeddingWithoutAge() {
    LifeLinks x = Check.made("wa:1600;wa:1899");
    for (int slack : new int[] {1, 0, 5}) {
      x.bound(1, slack);
      born(x, 0, 1540, 1586);
      born(x, 1, 1839, 1885);
    }
  }

  /** "of a BURIAL YEAR less 100 to YEAR": whatever SLACK is. */
  private static void promise6BornOfBurialWithoutAge() {
    LifeLinks x = Check.made("da:1600;da:1899");
    for (int slack : new int[] {1, 0, 5}) {
      x.bound(1, slack);
      born(x, 0, 1500, 1600);
      born(x, 1, 1799, 1899);
    }
  }

  /** "with an AGE, from YEAR - AGE - 1 - SLACK to YEAR - AGE + SLACK (SLACK 0 to 5, 1 at first)". */
  private static void promise6BornWithAgeAndSlack() {
    LifeLinks x = Check.made("wa:1750.30;da:1750.50");
    born(x, 0, 1718, 1721);
    born(x, 1, 1698, 1701);
    x.bound(1, 0);
    born(x, 0, 1719, 1720);
    born(x, 1, 1699, 1700);
    x.bound(1, 5);
    born(x, 0, 1714, 1725);
    born(x, 1, 1694, 1705);
  }

  /** "a WEDDING 14 to 99, a BURIAL 0 to 99": BORN at the least and the greatest AGE. */
  private static void promise6BornWithLeastAndGreatestAge() {
    LifeLinks x = Check.made("wa:1600.14;wa:1600.99;da:1600.0;da:1600.99;da:1899.0");
    born(x, 0, 1584, 1587);
    born(x, 1, 1499, 1502);
    born(x, 2, 1598, 1601);
    born(x, 3, 1499, 1502);
    born(x, 4, 1897, 1900);
    x.bound(1, 5);
    born(x, 1, 1495, 1506);
    born(x, 4, 1893, 1904);
  }

  /** "6 its LIFE": from 0, of each KIND. */
  private static void promise6LifeOfEachKind() {
    LifeLinks x = Check.made("wulla:1790;dotto:1700;banna:1700;danna:1760;wanna:1720");
    int[] lives = {2, 1, 0, 0, 0};
    for (int entry = 0; entry < lives.length; entry++) {
      Check.due("entry(" + entry + ", 6)", x.entry(entry, 6), lives[entry]);
      Check.due("entry(" + entry + ", 7)", x.entry(entry, 7), 0);
    }
  }

  /** "(NONE: it is DOUBTFUL)". */
  private static void promise6LifeNoneIfDoubtful() {
    LifeLinks x = Check.made("banna:1700;wanna:1720;banna:1700");
    Check.due("entry(1, 6)", x.entry(1, 6), NONE);
    Check.due("entry(1, 7)", x.entry(1, 7), 1);
    Check.due("entry(0, 7)", x.entry(0, 7), 0);
    Check.due("entry(2, 7)", x.entry(2, 7), 0);
    x.strike(2);
    Check.due("entry(1, 6) with one birth", x.entry(1, 6), 0);
    Check.due("entry(1, 7) with one birth", x.entry(1, 7), 0);
  }

  // ---- promise 7

  /** "UNKNOWN: entry". */
  private static void promise7UnknownEntry() {
    LifeLinks x = three();
    Edges.refusedOutside(x, "sign(.., 0)", n -> x.sign(n, 0), UNKNOWN, 0, 2);
    LifeLinks full = Edges.fullest();
    Edges.refusedOutside(full, "sign(.., 0)", n -> full.sign(n, 0), UNKNOWN, 0, LAST);
    Check.due("sign(16, 0)", full.sign(16, 0), 'o');
    Check.due("sign(17, 0)", full.sign(LAST, 0), 'a');
  }

  /** "UNKNOWN: .. place (from 0)": of a NAME of one letter, and of one of eight. */
  private static void promise7UnknownPlace() {
    LifeLinks x = Check.made("bz:1700;wabcdefgh:1722");
    Edges.refusedOutside(x, "sign(0, ..)", n -> x.sign(0, n), UNKNOWN, 0, 0);
    Edges.refusedOutside(x, "sign(1, ..)", n -> x.sign(1, n), UNKNOWN, 0, 7);
  }

  /** "UNKNOWN: entry, place": both at once. */
  private static void promise7UnknownBoth() {
    LifeLinks x = three();
    Edges.refusedOutside(x, "sign(.., 8)", n -> x.sign(n, 8), UNKNOWN, 0, 2);
    Edges.refusedOutside(x, "sign(.., -1)", n -> x.sign(n, -1), UNKNOWN, 0, 2);
  }

  /** "The code of a letter of the NAME": "a" and "z", at the first place and the last one. */
  private static void promise7FirstAndLastPlace() {
    LifeLinks x = Check.made("bz:1700;wabcdefgz:1722;da:1760");
    Check.due("sign(0, 0)", x.sign(0, 0), 122);
    Check.due("sign(1, 0)", x.sign(1, 0), 97);
    Check.due("sign(1, 7)", x.sign(1, 7), 122);
    Check.due("sign(2, 0)", x.sign(2, 0), 97);
  }

  /** "UNKNOWN: .. place": letters of a longer NAME that was struck out are gone. */
  private static void promise7LettersOfWhoWasThereBefore() {
    LifeLinks x = Check.made("babcdefgh:1700");
    x.strike(0);
    Check.enter(x, "bxy:1701");
    Check.due("sign(0, 1)", x.sign(0, 1), 'y');
    Edges.refusedOutside(x, "sign(0, ..)", n -> x.sign(0, n), UNKNOWN, 0, 1);
  }

  // ---- promise 8

  /** "UNKNOWN: entry". */
  private static void promise8UnknownEntry() {
    LifeLinks x = three();
    Edges.refusedOutside(x, "as(.., 0)", n -> x.as(n, 0), UNKNOWN, 0, 2);
    LifeLinks full = Edges.fullest();
    Edges.refusedOutside(full, "as(.., 2)", n -> full.as(n, 2), UNKNOWN, 0, LAST);
  }

  /** "OUTSIDE: kind (0 to 2)". */
  private static void promise8OutsideKind() {
    LifeLinks x = three();
    for (int entry = 0; entry < 3; entry++) {
      int one = entry;
      Edges.refusedOutside(x, "as(" + one + ", ..)", n -> x.as(one, n), OUTSIDE, 0, 2);
    }
  }

  /** "of several the first as told by each call". */
  private static void promise8UnknownAheadOfOutside() {
    LifeLinks x = three();
    Edges.refusedOutside(x, "as(.., 3)", n -> x.as(n, 3), UNKNOWN, 0, 2);
    Edges.refusedOutside(x, "as(.., -1)", n -> x.as(n, -1), UNKNOWN, 0, 2);
  }

  /** "An ENTRY taken as one of a KIND: its YEAR": the least KIND and the greatest one. */
  private static void promise8EachKind() {
    LifeLinks x = Check.made("ba:1600;wa:1722;da:1899");
    Check.due("as(0, 0)", x.as(0, 0), 1600);
    Check.due("as(1, 1)", x.as(1, 1), 1722);
    Check.due("as(2, 2)", x.as(2, 2), 1899);
    LifeLinks full = Edges.fullest();
    Check.due("as(0, 0)", full.as(0, 0), 1700);
    Check.due("as(17, 2)", full.as(LAST, 2), 1763);
  }

  /** "NONE: it is none such (a row of those does not take it)". */
  private static void promise8NoneOfTheOthers() {
    LifeLinks x = three();
    for (int entry = 0; entry < 3; entry++) {
      Check.due("as(" + entry + ", next)", x.as(entry, (entry + 1) % 3), NONE);
      Check.due("as(" + entry + ", one behind)", x.as(entry, (entry + 2) % 3), NONE);
    }
  }

  // ---- promise 9

  /** "UNKNOWN: entry". */
  private static void promise9Unknown() {
    LifeLinks x = three();
    Edges.refusedOutside(x, "strike", x::strike, UNKNOWN, 0, 2);
    LifeLinks full = Edges.fullest();
    Edges.refusedOutside(full, "strike", full::strike, UNKNOWN, 0, LAST);
    Check.due("count(6)", full.count(6), 0);
  }

  /** "those behind it have a number less by 1 each: how many are left": the first one. */
  private static void promise9TheFirst() {
    LifeLinks x = Edges.fullest();
    Check.due("strike(0)", x.strike(0), 17);
    for (int entry = 0; entry < 17; entry++) {
      Check.due("its KIND", x.entry(entry, 0), entry < 6 ? 0 : entry < 13 ? 1 : 2);
      int year = entry < 6 ? 1701 + entry : entry < 13 ? 1714 + entry : 1747 + entry;
      Check.due("its YEAR", x.entry(entry, 1), year);
    }
    Check.due("entry(17, 0)", x.entry(17, 0), UNKNOWN);
  }

  /** "those behind it": the last one has none. */
  private static void promise9TheLast() {
    LifeLinks x = Edges.fullest();
    Check.due("strike(17)", x.strike(LAST), 17);
    Check.due("entry(17, 0)", x.entry(LAST, 0), UNKNOWN);
    for (int entry = 0; entry < 17; entry++) {
      int year = entry < 7 ? 1700 + entry : entry < 14 ? 1713 + entry : 1746 + entry;
      Check.due("entry(" + entry + ", 1)", x.entry(entry, 1), year);
    }
    Check.due("strike(17) again", x.strike(LAST), UNKNOWN);
  }

  /** "how many are left": none. */
  private static void promise9TheOnlyOne() {
    LifeLinks x = Check.made("wa:1700");
    Check.due("strike(0)", x.strike(0), 0);
    Check.due("strike(0) of none", x.strike(0), UNKNOWN);
    Check.due("count(0)", x.count(0), 0);
    Check.due("count(2)", x.count(2), 0);
    Check.due("count(6)", x.count(6), 1);
    Check.due("lives(0)", x.lives(0), 0);
    Check.enter(x, "dotto:1760");
    told(x, 0, 2, 1760, NONE, 4, 1660, 1760, 0, 0);
  }

  /** "how many are left": 17 to 0, and then there is room for 18 again. */
  private static void promise9AllOfEighteen() {
    LifeLinks x = Edges.fullest();
    for (int left = 17; left >= 0; left--) {
      Check.due("strike", x.strike(left / 2), left);
    }
    Check.due("count(6)", x.count(6), 18);
    Check.enter(x, Edges.SEVEN_BIRTHS);
    Check.enter(x, Edges.SEVEN_WEDDINGS);
    Check.enter(x, Edges.FOUR_BURIALS);
    Check.type(x, "da:1700");
    Check.due("enter() of a 19th", x.enter(), FULL);
    Check.due("count(0)", x.count(0), 18);
  }

  /** "those behind it have a number less by 1 each": those ahead of it have not. */
  private static void promise9NumbersOfThoseBehind() {
    LifeLinks x = Check.made("ba:1700;bb:1701;wc:1750;dd:1760;be:1702");
    Check.due("strike(2)", x.strike(2), 4);
    int[] names = {'a', 'b', 'd', 'e'};
    int[] kinds = {0, 0, 2, 0};
    for (int entry = 0; entry < 4; entry++) {
      Check.due("sign(" + entry + ", 0)", x.sign(entry, 0), names[entry]);
      Check.due("entry(" + entry + ", 0)", x.entry(entry, 0), kinds[entry]);
    }
    Check.due("DISTANCES have the new numbers too", x.two(0, 3, 0), 1);
    Check.due("two(2, 3, 0)", x.two(2, 3, 0), 2);
  }

  /** "(Who is struck out is PARTED from nobody any more.)" */
  private static void promise9PartedFromNobody() {
    LifeLinks x = Check.made("banna:1700;wanna:1720;danna:1760");
    x.part(1, 0);
    x.part(1, 2);
    x.part(0, 2);
    Check.due("count(7)", x.count(7), 3);
    Check.due("strike(1)", x.strike(1), 2);
    Check.due("count(7)", x.count(7), 1);
    Check.enter(x, "wanna:1720");
    Check.due("who comes behind is parted from none", x.fits(2), 2);
    Check.due("count(7)", x.count(7), 1);
    Check.due("part(2, 0)", x.part(2, 0), 1);
    Check.due("count(7)", x.count(7), 2);
  }

  /** "those behind it have a number less by 1 each": PARTED ones too. */
  private static void promise9PartedOnesHaveOtherNumbers() {
    LifeLinks x = Edges.fullest();
    x.part(7, LAST);
    x.part(0, 16);
    x.strike(3);
    Check.due("two(6, 16, 2)", x.two(6, 16, 2), 3);
    Check.due("two(0, 15, 2)", x.two(0, 15, 2), 3);
    Check.due("two(8, 16, 2)", x.two(8, 16, 2), 0);
    Check.due("two(6, 13, 2)", x.two(6, 13, 2), 0);
    Check.due("count(7)", x.count(7), 2);
    Check.due("part(16, 6)", x.part(16, 6), 0);
    Check.due("count(7)", x.count(7), 1);
  }

  // ---- promise 10

  /** "UNKNOWN: entry". */
  private static void promise10Unknown() {
    LifeLinks x = three();
    Edges.refusedOutside(x, "age(.., 20)", n -> x.age(n, 20), UNKNOWN, 0, 2);
    Edges.refusedOutside(x, "age(.., NONE)", n -> x.age(n, NONE), UNKNOWN, 0, 2);
    LifeLinks full = Edges.fullest();
    Edges.refusedOutside(full, "age(.., 20)", n -> full.age(n, 20), UNKNOWN, 0, LAST);
  }

  /** "OUTSIDE: age (as for its KIND; a BIRTH NONE alone)": a BIRTH. */
  private static void promise10OutsideOfBirth() {
    LifeLinks x = three();
    Edges.refused(x, "age(0, ..)", n -> x.age(0, n), OUTSIDE,
        -2, 0, 1, 13, 14, 99, 100, Edges.FAR_BELOW, Edges.FAR_ABOVE);
    Check.due("entry(0, 2)", x.entry(0, 2), NONE);
  }

  /** "OUTSIDE: age (as for its KIND)": a WEDDING, 14 to 99. */
  private static void promise10OutsideOfWedding() {
    LifeLinks x = three();
    Edges.refused(x, "age(1, ..)", n -> x.age(1, n), OUTSIDE,
        -2, 0, 13, 100, Edges.FAR_BELOW, Edges.FAR_ABOVE);
    Check.due("entry(1, 2)", x.entry(1, 2), 21);
  }

  /** "OUTSIDE: age (as for its KIND)": a BURIAL, 0 to 99. */
  private static void promise10OutsideOfBurial() {
    LifeLinks x = three();
    Edges.refused(x, "age(2, ..)", n -> x.age(2, n), OUTSIDE,
        -2, 100, Edges.FAR_BELOW, Edges.FAR_ABOVE);
    Check.due("entry(2, 2)", x.entry(2, 2), NONE);
  }

  /** "of several the first as told by each call". */
  private static void promise10UnknownAheadOfOutside() {
    LifeLinks x = three();
    Edges.refusedOutside(x, "age(.., 100)", n -> x.age(n, 100), UNKNOWN, 0, 2);
    Edges.refusedOutside(x, "age(.., -2)", n -> x.age(n, -2), UNKNOWN, 0, 2);
  }

  /** "a BIRTH NONE alone". */
  private static void promise10BirthNone() {
    LifeLinks x = three();
    long before = x.digest();
    Check.due("age(0, NONE)", x.age(0, NONE), NONE);
    Check.due("digest()", x.digest(), before);
  }

  /** "a WEDDING 14 to 99", "(NONE: none): which it had". */
  private static void promise10WeddingBounds() {
    LifeLinks x = three();
    Check.due("age(1, 14)", x.age(1, 14), 21);
    born(x, 1, 1706, 1709);
    Check.due("age(1, 99)", x.age(1, 99), 14);
    born(x, 1, 1621, 1624);
    Check.due("age(1, 99) again", x.age(1, 99), 99);
    Check.due("age(1, NONE)", x.age(1, NONE), 99);
    born(x, 1, 1662, 1708);
    Check.due("age(1, NONE) again", x.age(1, NONE), NONE);
    Check.due("age(1, 14)", x.age(1, 14), NONE);
  }

  /** "a BURIAL 0 to 99", "(NONE: none): which it had". */
  private static void promise10BurialBounds() {
    LifeLinks x = three();
    Check.due("age(2, 0)", x.age(2, 0), NONE);
    born(x, 2, 1758, 1761);
    Check.due("age(2, 99)", x.age(2, 99), 0);
    born(x, 2, 1659, 1662);
    Check.due("age(2, NONE)", x.age(2, NONE), 99);
    born(x, 2, 1660, 1760);
    Check.due("age(2, 13)", x.age(2, 13), NONE);
  }

  /** "An ENTRY has another AGE (NONE: none)": 0 is an AGE. */
  private static void promise10NoneAndZeroAreUnlike() {
    LifeLinks x = Check.made("banna:1700;danna:1760;danna:1700.0");
    Check.due("mate(0)", x.mate(0), 1);
    x.age(1, 0);
    Check.due("mate(0), the other one at 0", x.mate(0), 2);
    x.age(1, NONE);
    Check.due("mate(0), the other one at none", x.mate(0), 1);
  }

  /** "(as for its KIND; a BIRTH NONE alone)": each AGE, and those just outside. */
  private static void promise10EachAge() {
    int[] least = {100, 14, 0};
    for (int age = -3; age <= 102; age++) {
      LifeLinks x = three();
      int[] had = {NONE, 21, NONE};
      for (int kind = 0; kind < 3; kind++) {
        boolean good = age == NONE || age >= least[kind] && age <= 99;
        Check.due("age(" + kind + ", " + age + ")", x.age(kind, age), good ? had[kind] : OUTSIDE);
        Check.due("entry(" + kind + ", 2)", x.entry(kind, 2), good ? age : had[kind]);
      }
    }
  }

  // ---- promise 11

  /** "UNKNOWN: one". */
  private static void promise11UnknownOne() {
    LifeLinks x = three();
    Edges.refusedOutside(x, "part(.., 0)", n -> x.part(n, 0), UNKNOWN, 0, 2);
    LifeLinks full = Edges.fullest();
    Edges.refusedOutside(full, "part(.., 17)", n -> full.part(n, LAST), UNKNOWN, 0, LAST);
  }

  /** "UNKNOWN: .. other". */
  private static void promise11UnknownOther() {
    LifeLinks x = three();
    Edges.refusedOutside(x, "part(0, ..)", n -> x.part(0, n), UNKNOWN, 0, 2);
    LifeLinks full = Edges.fullest();
    Edges.refusedOutside(full, "part(17, ..)", n -> full.part(LAST, n), UNKNOWN, 0, LAST);
  }

  /** "(two unlike ENTRIES)". */
  private static void promise11OneAndOtherTheSame() {
    LifeLinks x = Edges.fullest();
    Edges.refused(x, "part of one and itself", n -> x.part(n, n), UNKNOWN, 0, 1, 7, 16, LAST);
    Check.due("count(7)", x.count(7), 0);
  }

  /** "UNKNOWN: one, other": both at once. */
  private static void promise11BothUnknown() {
    LifeLinks x = three();
    Edges.refusedOutside(x, "part of a far one and itself", n -> x.part(n, n), UNKNOWN, 0, 2);
    Edges.refusedOutside(x, "part(.., 3)", n -> x.part(n, 3), UNKNOWN, 0, 2);
  }

  /** "Two ENTRIES are PARTED, or, if they are, not any more: 1, 0". */
  private static void promise11AndNotAnyMore() {
    LifeLinks x = three();
    long before = x.digest();
    Check.due("part(0, 1)", x.part(0, 1), 1);
    long parted = x.digest();
    Check.holds("another digest", parted != before);
    Check.due("part(0, 1) again", x.part(0, 1), 0);
    Check.due("digest()", x.digest(), before);
    Check.due("part(0, 1) a third time", x.part(0, 1), 1);
    Check.due("digest()", x.digest(), parted);
  }

  /** "Two ENTRIES are PARTED": which is told first makes no odds. */
  private static void promise11EitherWayRound() {
    LifeLinks x = three();
    Check.due("part(2, 0)", x.part(2, 0), 1);
    Check.due("two(0, 2, 2)", x.two(0, 2, 2), 3);
    Check.due("two(2, 0, 2)", x.two(2, 0, 2), 3);
    Check.due("part(0, 2)", x.part(0, 2), 0);
    Check.due("two(2, 0, 2)", x.two(2, 0, 2), 6);
    Check.due("count(7)", x.count(7), 0);
  }

  /** "Two ENTRIES": the least number and the greatest one. */
  private static void promise11FirstAndLast() {
    LifeLinks x = Edges.fullest();
    Check.due("part(0, 17)", x.part(0, LAST), 1);
    Check.due("two(17, 0, 2)", x.two(LAST, 0, 2), 3);
    Check.due("two(17, 1, 2)", x.two(LAST, 1, 2), 0);
    Check.due("two(14, 0, 2)", x.two(14, 0, 2), 0);
    Check.due("part(17, 0)", x.part(LAST, 0), 0);
    Check.due("two(17, 0, 2)", x.two(LAST, 0, 2), 0);
  }

  /** "Two ENTRIES are PARTED": each two of 18, so that nobody FITS anybody. */
  private static void promise11AllOfEighteen() {
    LifeLinks x = Edges.fullest();
    for (int one = 0; one < Edges.FULLEST; one++) {
      for (int other = one + 1; other < Edges.FULLEST; other++) {
        Check.due("part(" + one + ", " + other + ")", x.part(one, other), 1);
      }
    }
    Check.due("count(7)", x.count(7), 153);
    for (int entry = 0; entry < Edges.FULLEST; entry++) {
      Check.due("fits(" + entry + ")", x.fits(entry), 0);
    }
    Check.due("lives(0)", x.lives(0), 18);
    Check.due("strike(9)", x.strike(9), 17);
    Check.due("count(7)", x.count(7), 136);
  }

  // ---- promise 12

  /** "OUTSIDE: what". */
  private static void promise12OutsideWhat() {
    LifeLinks x = three();
    Edges.refusedOutside(x, "bound(.., 0)", n -> x.bound(n, 0), OUTSIDE, 0, 2);
    Edges.refusedOutside(x, "bound(.., 1)", n -> x.bound(n, 1), OUTSIDE, 0, 2);
  }

  private static void outsideBound(int what, int most, int first) {
    LifeLinks x = three();
    Edges.refusedOutside(x, "bound(" + what + ", ..)", n -> x.bound(what, n), OUTSIDE, 0, most);
    Check.due("bound(" + what + ", 0) behind refusals", x.bound(what, 0), first);
    Edges.refusedOutside(x, "bound(" + what + ", ..)", n -> x.bound(what, n), OUTSIDE, 0, most);
    Check.due("bound(" + what + ", most)", x.bound(what, most), 0);
    Edges.refusedOutside(x, "bound(" + what + ", ..)", n -> x.bound(what, n), OUTSIDE, 0, most);
    Check.due("bound(" + what + ", most) again", x.bound(what, most), most);
  }

  /** "OUTSIDE: .. v", "LEAST (0 to 1000)". */
  private static void promise12OutsideLeast() {
    outsideBound(0, 1000, 600);
  }

  /** "OUTSIDE: .. v", "SLACK (0 to 5)". */
  private static void promise12OutsideSlack() {
    outsideBound(1, 5, 1);
  }

  /** "OUTSIDE: .. v", "DOUBT (0 to 500)". */
  private static void promise12OutsideDoubt() {
    outsideBound(2, 500, 40);
  }

  /** "OUTSIDE: what, v": both at once. */
  private static void promise12OutsideBoth() {
    LifeLinks x = three();
    Edges.refusedOutside(x, "bound(.., -1)", n -> x.bound(n, -1), OUTSIDE, 0, 2);
    Edges.refusedOutside(x, "bound(.., 1001)", n -> x.bound(n, 1001), OUTSIDE, 0, 2);
  }

  /** "A bound is another one: .. which it was": each by itself. */
  private static void promise12WhichItWas() {
    LifeLinks x = new LifeLinks();
    int[] first = {600, 1, 40};
    int[] most = {1000, 5, 500};
    for (int what = 0; what < 3; what++) {
      Check.due("bound(" + what + ", most)", x.bound(what, most[what]), first[what]);
    }
    for (int what = 0; what < 3; what++) {
      Check.due("bound(" + what + ", 0)", x.bound(what, 0), most[what]);
    }
    for (int what = 0; what < 3; what++) {
      Check.due("bound(" + what + ", 2)", x.bound(what, 2), 0);
      Check.due("bound(" + what + ", 2) again", x.bound(what, 2), 2);
    }
  }

  /** "LEAST (0 to 1000)", "SLACK (0 to 5)", "DOUBT (0 to 500)": each value, and those outside. */
  private static void promise12EachValue() {
    int[] first = {600, 1, 40};
    int[] most = {1000, 5, 500};
    for (int what = -2; what <= 4; what++) {
      for (int v = -2; v <= 1002; v++) {
        LifeLinks x = new LifeLinks();
        boolean good = what >= 0 && what <= 2 && v >= 0 && v <= most[what];
        Check.due("bound(" + what + ", " + v + ")", x.bound(what, v), good ? first[what] : OUTSIDE);
        if (what >= 0 && what <= 2) {
          Check.due("bound(" + what + ", 0)", x.bound(what, 0), good ? v : first[what]);
        }
      }
    }
  }

  private static LifeLinks unlike(int likeness, String one, String other) {
    LifeLinks x = Check.made("b" + one + ":1700;w" + other + ":1720");
    Check.due("LIKENESS of " + one + ", " + other, x.two(0, 1, 1), likeness);
    return x;
  }

  /** "LEAST (0 to 1000)": at 0 a LIKENESS of 0 is not less, at 1 it is. */
  private static void promise12LeastZero() {
    LifeLinks x = unlike(0, "a", "b");
    x.bound(0, 0);
    Check.due("LEAST 0: two(0, 1, 2)", x.two(0, 1, 2), 0);
    Check.due("LEAST 0: two(0, 1, 3)", x.two(0, 1, 3), 200);
    Check.due("LEAST 0: fits(0)", x.fits(0), 1);
    x.bound(0, 1);
    Check.due("LEAST 1: two(0, 1, 2)", x.two(0, 1, 2), 6);
    Check.due("LEAST 1: fits(0)", x.fits(0), 0);
  }

  /** "LEAST (0 to 1000)": at 1000 the same NAMES FIT, and no others. */
  private static void promise12LeastThousand() {
    LifeLinks x = unlike(1000, "abcdefgh", "abcdefgh");
    x.bound(0, 1000);
    Check.due("LEAST 1000: two(0, 1, 2)", x.two(0, 1, 2), 0);
    LifeLinks y = unlike(938, "abcdefgh", "abcdefgh".replace('c', 'k'));
    y.bound(0, 1000);
    Check.due("LEAST 1000: two(0, 1, 2)", y.two(0, 1, 2), 6);
    y.bound(0, 938);
    Check.due("LEAST 938: two(0, 1, 2)", y.two(0, 1, 2), 0);
    y.bound(0, 939);
    Check.due("LEAST 939: two(0, 1, 2)", y.two(0, 1, 2), 6);
  }

  private static void bornWith(int slack, int first, int last) {
    LifeLinks x = Check.made("wanna:1740.20;ba:1600");
    x.bound(1, slack);
    born(x, 0, first, last);
    born(x, 1, 1600, 1600);
    int[] years = {first - 1, first, last, last + 1};
    for (int k = 0; k < years.length; k++) {
      LifeLinks y = Check.made("wanna:1740.20;banna:" + years[k]);
      y.bound(1, slack);
      Check.due("SLACK " + slack + ", BIRTH " + years[k], y.two(0, 1, 2), k % 3 == 0 ? 5 : 0);
    }
  }

  /** "SLACK (0 to 5)": at 0 an AGE leaves two years. */
  private static void promise12SlackZero() {
    bornWith(0, 1719, 1720);
  }

  /** "SLACK (0 to 5)": at 5 an AGE leaves twelve. */
  private static void promise12SlackFive() {
    bornWith(5, 1714, 1725);
  }

  /** "DOUBT (0 to 500)": at 0 just as much WORTH is in doubt, 1 less is not. */
  private static void promise12DoubtZero() {
    LifeLinks x = Check.made("wanna:1700;danna:1773;danna:1773");
    x.bound(2, 0);
    Check.due("1014 and 1014", x.entry(0, 7), 1);
    LifeLinks y = Check.made("wanna:1700;danna:1773;danna:1774");
    y.bound(2, 0);
    Check.due("worth(0, 0)", y.worth(0, 0), 1014);
    Check.due("worth(0, 1)", y.worth(0, 1), 1015);
    Check.due("1014 and 1015", y.entry(0, 6), 1);
    y.bound(2, 1);
    Check.due("1014 and 1015, DOUBT 1", y.entry(0, 6), NONE);
  }

  /** "DOUBT (0 to 500)": at 500 a difference of 500 is in doubt, of 501 it is not. */
  private static void promise12DoubtFiveHundred() {
    LifeLinks x = Check.made("wab:1700;dah:1773;dab:1773");
    x.bound(0, 500);
    x.bound(2, 500);
    Check.due("worth(0, 0)", x.worth(0, 0), 514);
    Check.due("worth(0, 1)", x.worth(0, 1), 1014);
    Check.due("514 and 1014", x.entry(0, 6), NONE);
    x.bound(2, 499);
    Check.due("514 and 1014, DOUBT 499", x.entry(0, 6), 1);
    LifeLinks y = Check.made("wab:1700;dah:1773;dab:1774");
    y.bound(0, 500);
    y.bound(2, 500);
    Check.due("worth(0, 1)", y.worth(0, 1), 1015);
    Check.due("514 and 1015", y.entry(0, 6), 1);
  }
}
