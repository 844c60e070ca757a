/**
 * Promises 16 to 18 at their edges: for each sentence of the document that names a boundary case a
 * test of its own, with the sentence's words ahead of it. EdgesMatchTest has promises 19 and 20.
 */
public final class EdgesLivesTest {
  private static final int NONE = LifeLinks.NONE;
  private static final int UNKNOWN = LifeLinks.UNKNOWN;
  private static final int OUTSIDE = LifeLinks.OUTSIDE;
  private static final String SEVEN_ALIKE =
      "wanna:1720;wanna:1721;wanna:1722;wanna:1723;wanna:1724";

  public static void main(String[] args) {
    promise16();
    promise16Shaky();
    promise17();
    promise18Refusals();
    promise18HowMany();
    promise18Doubt();
    promise18Worth();
    Check.end();
  }

  private static void promise16() {
    promise16Outside();
    promise16OfNoEntries();
    promise16OfOneEntry();
    promise16Eighteen();
    promise16InOrder();
    promise16WorthTogether();
    promise16Doubtful();
    promise16OnlyEntry();
  }

  private static void promise16Shaky() {
    promise16ShakyJustDoubt();
    promise16ShakyByAnotherBirth();
    promise16ShakyAtDoubtZero();
    promise16ShakyAtFirstDoubt();
    promise16ShakyAtGreatestDoubt();
    promise16ShakyThoughTheOtherOneIsWorthMore();
    promise16ShakyByOneOfAnotherPair();
    promise16NotShakyAlone();
    promise16NotShakyByOneThatDoesNotFit();
    promise16NotShakyOfLittleWorth();
    promise16NotShakyWithoutBoth();
    promise16NotShakyByAWedding();
    promise16NotShakyByOneStruckOut();
    promise16NotShakyAnyMore();
  }

  private static void promise17() {
    promise17Unknown();
    promise17Outside();
    promise17UnknownAheadOfOutside();
    promise17NoBirth();
    promise17NoBurial();
    promise17WeddingsAlone();
    promise17HowManyEntries();
    promise17BornOneYear();
    promise17BornOneYearWithoutBirth();
    promise17BornIsNeverNothing();
    promise17LastByYears();
    promise17LastOfOneYear();
  }

  private static void promise18Refusals() {
    promise18UnknownLife();
    promise18UnknownPlace();
    promise18UnknownBoth();
    promise18LifeWithoutWedding();
    promise18OrderOfNumbers();
  }

  private static void promise18HowMany() {
    promise18ThirdAndFourth();
    promise18FourthGoesToTheNext();
    promise18ThreeAreNoRival();
    promise18WeddingsAlone();
    promise18GoesToNone();
    promise18FitsAllByNow();
    promise18LifeBehindAllOthers();
    promise18StruckOutMakesRoom();
  }

  private static void promise18Doubt() {
    promise18DoubtAtFirst();
    promise18DoubtJustAndOneMore();
    promise18OfSeveralAsMuch();
    promise18RivalAheadAndBehind();
    promise18OneThatItCannotGoToIsNoRival();
    promise18NoRivalOfLittleWorth();
    promise18DoubtfulIsInNoLife();
    promise18DoubtfulIsNotOneOfThree();
    promise18LifeOfItsOwnIsARival();
  }

  private static void promise18Worth() {
    promise18WorthOfBirthAndBurial();
    promise18WorthOfBurialAlone();
    promise18WorthOfWeddingsRoundedDown();
    promise18WeddingsDoNotCountBesideBirth();
  }

  private static void lives(LifeLinks x, int... wants) {
    for (int what = 0; what < wants.length; what++) {
      Check.due("lives(" + what + ")", x.lives(what), wants[what]);
    }
  }

  private static void life(LifeLinks x, int life, int... wants) {
    for (int what = 0; what < wants.length; what++) {
      Check.due("life(" + life + ", " + what + ")", x.life(life, what), wants[what]);
    }
  }

  private static void weddings(LifeLinks x, int life, int... wants) {
    for (int place = 0; place < wants.length; place++) {
      Check.due("wedding(" + life + ", " + place + ")", x.wedding(life, place), wants[place]);
    }
    Check.due("wedding(" + life + ", behind the last)", x.wedding(life, wants.length), UNKNOWN);
    Check.due("life(" + life + ", 2)", x.life(life, 2), wants.length);
  }

  // ---- promise 16

  /** "OUTSIDE": what is 0 to 5. */
  private static void promise16Outside() {
    LifeLinks empty = new LifeLinks();
    Edges.refusedOutside(empty, "lives", empty::lives, OUTSIDE, 0, 5);
    LifeLinks x = Edges.fullest();
    Edges.refusedOutside(x, "lives", x::lives, OUTSIDE, 0, 5);
  }

  /** "What = 0 how many LIVES ..": of no ENTRIES, at first and again. */
  private static void promise16OfNoEntries() {
    lives(new LifeLinks(), 0, 0, 0, 0, 0, 0);
    LifeLinks x = Check.made("banna:1700;danna:1760;danna:1761");
    lives(x, 2, 1, 1200, 0, 1, 1);
    x.strike(0);
    x.strike(0);
    x.strike(0);
    lives(x, 0, 0, 0, 0, 0, 0);
  }

  /** "What = 0 how many LIVES ..": of one ENTRY of each KIND. */
  private static void promise16OfOneEntry() {
    lives(Check.made("banna:1700"), 1, 0, 0, 0, 0, 1);
    lives(Check.made("wanna:1700"), 1, 0, 0, 0, 0, 1);
    lives(Check.made("danna:1700"), 1, 0, 0, 0, 0, 1);
  }

  /** "18 at most": as many LIVES, when nobody FITS anybody. */
  private static void promise16Eighteen() {
    LifeLinks x = Check.made("ba:1700;bb:1700;bc:1700;bd:1700;be:1700;bf:1700;bg:1700",
        "wo:1720;wp:1720;wq:1720;wr:1720", "dh:1750;di:1750;dj:1750;dk:1750;dl:1750;dm:1750;dn:1750");
    x.bound(0, 1000);
    lives(x, 18, 0, 0, 0, 0, 18);
    life(x, 17, NONE, NONE, 1, 1660, 1706, 0, 1, 1720);
    Check.due("wedding(17, 0)", x.wedding(17, 0), 10);
    Check.due("entry(10, 6)", x.entry(10, 6), 17);
    Check.due("life(14, 0)", x.life(14, 0), NONE);
    Check.due("life(13, 1)", x.life(13, 1), 17);
    Check.due("life(7, 1)", x.life(7, 1), 11);
    Check.due("life(6, 0)", x.life(6, 0), 6);
  }

  /** "one for each BIRTH, in order ..; then one for each BURIAL that is in no pair, in order". */
  private static void promise16InOrder() {
    LifeLinks x = Check.made("dotto:1700;wulla:1790;dpit:1650;danna:1760", "bxy:1620;banna:1700");
    int[] births = {4, 5, NONE, NONE, NONE};
    int[] burials = {NONE, 3, 0, 2, NONE};
    for (int life = 0; life < 5; life++) {
      Check.due("life(" + life + ", 0)", x.life(life, 0), births[life]);
      Check.due("life(" + life + ", 1)", x.life(life, 1), burials[life]);
    }
    weddings(x, 4, 1);
    lives(x, 5, 1, 1200, 0, 0, 4);
  }

  /** "2 their WORTH together": of no pair, of one, of seven. */
  private static void promise16WorthTogether() {
    lives(Check.made("banna:1700;dotto:1760"), 2, 0, 0);
    lives(Check.made("banna:1700;danna:1760"), 1, 1, 1200);
    LifeLinks x = Check.made(Edges.SEVEN_BIRTHS, Edges.SEVEN_BIRTHS.replace("ba:170", "da:176"));
    lives(x, 7, 7, 8400, 0, 7, 0);
    x.strike(0);
    lives(x, 7, 6, 7200, 0, 6, 1);
  }

  /** "3 how many WEDDINGS are DOUBTFUL": none, all of seven, and as often as it is asked. */
  private static void promise16Doubtful() {
    LifeLinks x = Check.made("banna:1700;banna:1701", SEVEN_ALIKE, "wanna:1725;wanna:1726");
    lives(x, 2, 0, 0, 7, 0, 2);
    x.part(0, 2);
    lives(x, 2, 0, 0, 6, 0, 1);
    x.part(0, 2);
    lives(x, 2, 0, 0, 7, 0, 2);
    x.strike(0);
    Check.due("lives(3), one birth", x.lives(3), 0);
  }

  /** "5 how many LIVES have an only ENTRY": one and two ENTRIES, of each KIND. */
  private static void promise16OnlyEntry() {
    lives(Check.made("banna:1700;wanna:1720"), 1, 0, 0, 0, 0, 0);
    lives(Check.made("wanna:1720;danna:1760"), 1, 0, 0, 0, 0, 0);
    lives(Check.made("wanna:1720;wanna:1720"), 1, 0, 0, 0, 0, 0);
    lives(Check.made("banna:1700;danna:1760"), 1, 1, 1200, 0, 0, 0);
    lives(Check.made("bpit:1700;wanna:1720;dotto:1760"), 3, 0, 0, 0, 0, 3);
  }

  // ---- promise 16: SHAKY

  private static void shaky(LifeLinks x, int life, int doubt, int want) {
    x.bound(2, doubt);
    Check.due("DOUBT " + doubt + ": life(" + life + ", 5)", x.life(life, 5), want);
    Check.due("DOUBT " + doubt + ": lives(4)", x.lives(4), want);
  }

  /** "so that the WORTH of the two that the LIFE has less that one is DOUBT or less". */
  private static void promise16ShakyJustDoubt() {
    LifeLinks x = Check.made("bpit:1700;dpit:1750;dbit:1751");
    Check.due("two(0, 1, 3)", x.two(0, 1, 3), 1200);
    Check.due("two(0, 2, 3)", x.two(0, 2, 3), 1034);
    shaky(x, 0, 165, 0);
    shaky(x, 0, 166, 1);
    shaky(x, 0, 167, 1);
    LifeLinks y = Check.made("bpit:1700;dbit:1751;dpit:1750");
    shaky(y, 0, 165, 0);
    shaky(y, 0, 166, 1);
  }

  /** "or another BIRTH that BURIAL": ahead of it and behind it. */
  private static void promise16ShakyByAnotherBirth() {
    LifeLinks x = Check.made("bbit:1700;bpit:1700;dpit:1750");
    shaky(x, 1, 165, 0);
    shaky(x, 1, 166, 1);
    LifeLinks y = Check.made("bpit:1700;bbit:1700;dpit:1750");
    shaky(y, 0, 165, 0);
    shaky(y, 0, 166, 1);
  }

  /** "DOUBT (0 to 500 ..)": at 0 as much WORTH makes it SHAKY, the least difference there is not. */
  private static void promise16ShakyAtDoubtZero() {
    LifeLinks x = Check.made("bpit:1700;dpit:1750;dpit:1751");
    shaky(x, 0, 0, 1);
    LifeLinks y = Check.made("baaaaaaa:1700;dhhhaaaa:1750;dhheaaaah:1750");
    y.bound(0, 563);
    Check.due("two(0, 1, 3)", y.two(0, 1, 3), 572 + 200);
    Check.due("two(0, 2, 3)", y.two(0, 2, 3), 563 + 200);
    shaky(y, 0, 0, 0);
    shaky(y, 0, 8, 0);
    shaky(y, 0, 9, 1);
  }

  /** "40 at first": a difference of 38 and one of 41, of those that NAMES can have the next to it. */
  private static void promise16ShakyAtFirstDoubt() {
    LifeLinks x = Check.made("baaaaa:1700;deeeaahlr:1750;dhhhaa:1750");
    x.bound(0, 400);
    Check.due("two(0, 1, 3)", x.two(0, 1, 3), 438 + 200);
    Check.due("two(0, 2, 3)", x.two(0, 2, 3), 400 + 200);
    Check.due("38 is not above 40", x.lives(4), 1);
    shaky(x, 0, 37, 0);
    shaky(x, 0, 38, 1);
    LifeLinks y = Check.made("banna:1700;denmo:1750;dennahl:1750");
    y.bound(0, 584);
    Check.due("two(0, 1, 3)", y.two(0, 1, 3), 625 + 200);
    Check.due("two(0, 2, 3)", y.two(0, 2, 3), 584 + 200);
    Check.due("41 is above 40", y.lives(4), 0);
    shaky(y, 0, 40, 0);
    shaky(y, 0, 41, 1);
  }

  /** "DOUBT (0 to 500 ..)": at 500 a difference of 500, and one of 509, the next there is. */
  private static void promise16ShakyAtGreatestDoubt() {
    LifeLinks x = Check.made("bab:1700;dab:1750;dah:1750");
    x.bound(0, 500);
    shaky(x, 0, 499, 0);
    shaky(x, 0, 500, 1);
    LifeLinks y = Check.made("baaaaaaa:1700;dhhhaaaa:1750;dehhhhhhh:1750");
    y.bound(0, 0);
    Check.due("two(0, 1, 3)", y.two(0, 1, 3), 572 + 200);
    Check.due("two(0, 2, 3)", y.two(0, 2, 3), 63 + 200);
    shaky(y, 0, 500, 0);
  }

  /** "less that one is DOUBT or less": less than 0 is, too. */
  private static void promise16ShakyThoughTheOtherOneIsWorthMore() {
    // The pair that is worth 1200 would leave the others with none.
    LifeLinks x = Check.made("banna:1700;bhanna:1700;danna:1750;dannas:1750");
    x.bound(0, 700);
    x.bound(2, 0);
    Check.due("two(0, 2, 3)", x.two(0, 2, 3), 1200);
    Check.due("two(0, 3, 3)", x.two(0, 3, 3), 1000);
    Check.due("mate(0)", x.mate(0), 3);
    lives(x, 2, 2, 2000, 0, 2, 0);
  }

  /** "another BURIAL FITS that BIRTH": one that another LIFE has, too. */
  private static void promise16ShakyByOneOfAnotherPair() {
    LifeLinks x = Check.made("bpit:1700;bbit:1700;dpit:1750;dbit:1750");
    Check.due("mate(0)", x.mate(0), 2);
    Check.due("mate(1)", x.mate(1), 3);
    x.bound(2, 165);
    Check.due("DOUBT 165: lives(4)", x.lives(4), 0);
    x.bound(2, 166);
    Check.due("DOUBT 166: lives(4)", x.lives(4), 2);
  }

  /** "and another BURIAL .., or another BIRTH": its own are no others. */
  private static void promise16NotShakyAlone() {
    LifeLinks x = Check.made("bpit:1700;dpit:1750");
    shaky(x, 0, 500, 0);
    shaky(x, 0, 0, 0);
  }

  /** "another BURIAL FITS that BIRTH": at just LEAST, one below, and PARTED. */
  private static void promise16NotShakyByOneThatDoesNotFit() {
    LifeLinks x = Check.made("bpit:1700;dpit:1750;dbit:1751");
    x.bound(0, 834);
    shaky(x, 0, 500, 1);
    x.bound(0, 835);
    shaky(x, 0, 500, 0);
    x.bound(0, 600);
    x.part(2, 0);
    shaky(x, 0, 500, 0);
  }

  /** "another BURIAL FITS that BIRTH": one that does not is no other, however little the own WORTH is. */
  private static void promise16NotShakyOfLittleWorth() {
    LifeLinks x = Check.made("ba:1700;dh:1750;dh:1751");
    x.bound(0, 0);
    Check.due("lives(2)", x.lives(2), 200);
    x.part(0, 2);
    shaky(x, 0, 500, 0);
    x.part(0, 2);
    shaky(x, 0, 500, 1);
  }

  /** "if it has a BIRTH and a BURIAL". */
  private static void promise16NotShakyWithoutBoth() {
    LifeLinks x = Check.made("bpit:1700;bpit:1701;dpit:1750");
    x.bound(2, 500);
    life(x, 0, 0, 2, 0, 1700, 1700, 1, 2, 1750);
    life(x, 1, 1, NONE, 0, 1701, 1701, 0, 1, 1701);
    LifeLinks y = Check.made("bpit:1700;dpit:1750;dpit:1751");
    y.bound(2, 500);
    life(y, 1, NONE, 2, 0, 1651, 1751, 0, 1, 1751);
    Check.due("lives(4)", y.lives(4), 1);
  }

  /** "another BURIAL .., or another BIRTH": a WEDDING is none. */
  private static void promise16NotShakyByAWedding() {
    LifeLinks x = Check.made("bpit:1700;dpit:1750;wpit:1720;wpit:1721");
    shaky(x, 0, 500, 0);
    weddings(x, 0, 2, 3);
  }

  /** "another BURIAL FITS that BIRTH, or another BIRTH that BURIAL": one that was struck out does not. */
  private static void promise16NotShakyByOneStruckOut() {
    LifeLinks x = Check.made("bpit:1700;dpit:1750;dpit:1751");
    Check.due("lives(4)", x.lives(4), 1);
    x.strike(2);
    Check.due("lives(4), the last burial struck out", x.lives(4), 0);
    Check.enter(x, "bpit:1700");
    Check.due("lives(4)", x.lives(4), 1);
    x.strike(2);
    Check.due("lives(4), the last birth struck out", x.lives(4), 0);
    LifeLinks y = Check.made("dpit:1751;bpit:1700;dpit:1750");
    Check.due("lives(4)", y.lives(4), 1);
    y.strike(0);
    Check.due("lives(4), the first burial struck out", y.lives(4), 0);
  }

  /** "A LIFE is SHAKY, if": a LIFE that takes the number of one that was is not. */
  private static void promise16NotShakyAnyMore() {
    LifeLinks x = Check.made("bpit:1700;dpit:1750;dpit:1751;wotto:1720");
    Check.due("life(0, 5)", x.life(0, 5), 1);
    Check.due("life(2, 5)", x.life(2, 5), 0);
    x.strike(0);
    Check.due("life(0, 5) of a burial", x.life(0, 5), 0);
    x.strike(0);
    x.strike(0);
    Check.due("life(0, 5) of a wedding", x.life(0, 5), 0);
    LifeLinks y = Check.made("bpit:1700;dpit:1750;dpit:1751;wotto:1720");
    Check.due("life(0, 5)", y.life(0, 5), 1);
    y.strike(2);
    y.strike(1);
    y.strike(0);
    Check.due("life(0, 5) of a wedding at once", y.life(0, 5), 0);
    Check.due("lives(4)", y.lives(4), 0);
  }

  // ---- promise 17

  /** "UNKNOWN: life". */
  private static void promise17Unknown() {
    LifeLinks x = Check.made("banna:1700;wotto:1720;dpit:1760");
    Edges.refusedOutside(x, "life(.., 0)", n -> x.life(n, 0), UNKNOWN, 0, 2);
    LifeLinks one = Check.made("banna:1700;wanna:1720;danna:1760");
    Edges.refusedOutside(one, "life(.., 7)", n -> one.life(n, 7), UNKNOWN, 0, 0);
    LifeLinks full = Edges.fullest();
    int most = full.lives(0) - 1;
    Edges.refusedOutside(full, "life(.., 1)", n -> full.life(n, 1), UNKNOWN, 0, most);
  }

  /** "OUTSIDE: what". */
  private static void promise17Outside() {
    LifeLinks x = Check.made("banna:1700;wotto:1720;dpit:1760");
    for (int life = 0; life < 3; life++) {
      int one = life;
      Edges.refusedOutside(x, "life(" + one + ", ..)", n -> x.life(one, n), OUTSIDE, 0, 7);
    }
  }

  /** "of several the first as told by each call". */
  private static void promise17UnknownAheadOfOutside() {
    LifeLinks x = Check.made("banna:1700;wotto:1720;dpit:1760");
    Edges.refusedOutside(x, "life(.., 8)", n -> x.life(n, 8), UNKNOWN, 0, 2);
    Edges.refusedOutside(x, "life(.., -1)", n -> x.life(n, -1), UNKNOWN, 0, 2);
  }

  /** "0 its BIRTH (NONE)". */
  private static void promise17NoBirth() {
    LifeLinks x = Check.made("danna:1760;wanna:1720");
    life(x, 0, NONE, 0, 1, 1660, 1706, 0, 2, 1760);
  }

  /** "1 its BURIAL (NONE)". */
  private static void promise17NoBurial() {
    LifeLinks x = Check.made("wanna:1720;banna:1700");
    life(x, 0, 1, NONE, 1, 1700, 1700, 0, 2, 1720);
  }

  /** "0 its BIRTH (NONE), 1 its BURIAL (NONE)": a LIFE of WEDDINGS alone. */
  private static void promise17WeddingsAlone() {
    LifeLinks x = Check.made("wanna:1720;wanna:1740.40");
    life(x, 0, NONE, NONE, 2, 1698, 1701, 0, 2, 1740);
    x.strike(1);
    life(x, 0, NONE, NONE, 1, 1660, 1706, 0, 1, 1720);
  }

  /** "6 how many ENTRIES": one, and the most, a BIRTH, a BURIAL and three WEDDINGS. */
  private static void promise17HowManyEntries() {
    LifeLinks x = Check.made("wanna:1720;banna:1700;wanna:1721;danna:1760;wanna:1722");
    life(x, 0, 1, 3, 3, 1700, 1700, 0, 5, 1760);
    Check.enter(x, "wanna:1723");
    life(x, 0, 1, 3, 3, 1700, 1700, 0, 5, 1760);
    life(x, 1, NONE, NONE, 1, 1663, 1709, 0, 1, 1723);
  }

  /** "what all its ENTRIES have in common": one year alone. */
  private static void promise17BornOneYear() {
    LifeLinks x = Check.made("banna:1700;danna:1760.58;wanna:1720.21");
    life(x, 0, 0, 1, 1, 1700, 1700, 0, 3, 1760);
  }

  /** "what all its ENTRIES have in common": one year alone, and with one less they do not FIT. */
  private static void promise17BornOneYearWithoutBirth() {
    LifeLinks x = Check.made("danna:1760.57;wanna:1720.20");
    life(x, 0, NONE, 0, 1, 1701, 1701, 0, 2, 1760);
    x.age(0, 56);
    life(x, 0, NONE, 0, 0, 1702, 1705, 0, 1, 1760);
    life(x, 1, NONE, NONE, 1, 1698, 1701, 0, 1, 1720);
  }

  /** "if that is nothing, NONE and NONE": where each two have a year in common, all have one. */
  private static void promise17BornIsNeverNothing() {
    for (int slack = 0; slack <= 5; slack++) {
      LifeLinks x = Check.made("wanna:1720.20;wanna:1721.24;wanna:1722.28;wanna:1723.18");
      Check.enter(x, "danna:1760.63;banna:1699;banna:1703");
      x.bound(1, slack);
      x.bound(2, 0);
      for (int life = 0; life < x.lives(0); life++) {
        int first = x.life(life, 3);
        Check.holds("first year of " + life, first != NONE && first <= x.life(life, 4));
      }
    }
  }

  /** "7 the YEAR of its last ENTRY by YEARS": not by numbers. */
  private static void promise17LastByYears() {
    LifeLinks x = Check.made("wanna:1740;wanna:1720;wanna:1730");
    life(x, 0, NONE, NONE, 3, 1680, 1706, 0, 3, 1740);
    LifeLinks y = Check.made("danna:1760;banna:1700;wanna:1720");
    life(y, 0, 1, 0, 1, 1700, 1700, 0, 3, 1760);
    LifeLinks z = Check.made("wanna:1721;banna:1700;wanna:1720");
    life(z, 0, 1, NONE, 2, 1700, 1700, 0, 3, 1721);
  }

  /** "7 the YEAR of its last ENTRY by YEARS": of several the same. */
  private static void promise17LastOfOneYear() {
    LifeLinks x = Check.made("banna:1700;danna:1700");
    life(x, 0, 0, 1, 0, 1700, 1700, 0, 2, 1700);
    LifeLinks y = Check.made("wanna:1720;danna:1720");
    life(y, 0, NONE, 1, 1, 1660, 1706, 0, 2, 1720);
    LifeLinks z = Check.made("danna:1899;banna:1799;wanna:1899");
    Check.due("life(0, 7)", z.life(0, 7), 1899);
  }

  // ---- promise 18: refusals

  /** "UNKNOWN: life". */
  private static void promise18UnknownLife() {
    LifeLinks x = Check.made("banna:1700;wanna:1720;wotto:1720");
    Edges.refusedOutside(x, "wedding(.., 0)", n -> x.wedding(n, 0), UNKNOWN, 0, 1);
    Check.due("wedding(1, 0)", x.wedding(1, 0), 2);
    LifeLinks full = Edges.fullest();
    int most = full.lives(0) - 1;
    Edges.refusedOutside(full, "wedding(.., 0)", n -> full.wedding(n, 0), UNKNOWN, 0, most);
  }

  /** "UNKNOWN: .. place (from 0)": of one WEDDING, and of three. */
  private static void promise18UnknownPlace() {
    LifeLinks x = Check.made("banna:1700;wanna:1720");
    Edges.refusedOutside(x, "wedding(0, ..)", n -> x.wedding(0, n), UNKNOWN, 0, 0);
    Check.due("wedding(0, 0)", x.wedding(0, 0), 1);
    LifeLinks y = Check.made("banna:1700;wanna:1720;wanna:1721;wanna:1722");
    Edges.refusedOutside(y, "wedding(0, ..)", n -> y.wedding(0, n), UNKNOWN, 0, 2);
    Check.due("wedding(0, 2)", y.wedding(0, 2), 3);
  }

  /** "UNKNOWN: life, place": both at once. */
  private static void promise18UnknownBoth() {
    LifeLinks x = Check.made("banna:1700;wanna:1720");
    Edges.refusedOutside(x, "wedding(.., 1)", n -> x.wedding(n, 1), UNKNOWN, 0, 0);
    Edges.refusedOutside(x, "wedding(.., -1)", n -> x.wedding(n, -1), UNKNOWN, 0, 0);
  }

  /** "UNKNOWN: .. place": a LIFE without a WEDDING has none. */
  private static void promise18LifeWithoutWedding() {
    LifeLinks x = Check.made("banna:1700;danna:1760;dotto:1760;bpit:1700");
    for (int life = 0; life < 3; life++) {
      int one = life;
      Edges.refused(x, "wedding(" + one + ", ..)", n -> x.wedding(one, n), UNKNOWN,
          0, 1, 2, -1, -2, Edges.FAR_BELOW, Edges.FAR_ABOVE);
    }
  }

  /** "A WEDDING of a LIFE, in the order of numbers": not of YEARS. */
  private static void promise18OrderOfNumbers() {
    LifeLinks x = Check.made("wanna:1740;wanna:1720;banna:1700;wanna:1730;danna:1770");
    weddings(x, 0, 0, 1, 3);
  }

  // ---- promise 18: how many

  /** "and there are fewer than three WEDDINGS": the third goes there, a fourth that FITS does not. */
  private static void promise18ThirdAndFourth() {
    LifeLinks x = Check.made("banna:1700;wanna:1720;wanna:1721");
    weddings(x, 0, 1, 2);
    Check.enter(x, "wanna:1722");
    weddings(x, 0, 1, 2, 3);
    Check.due("lives(0)", x.lives(0), 1);
    Check.enter(x, "wanna:1723");
    weddings(x, 0, 1, 2, 3);
    weddings(x, 1, 4);
    Check.due("entry(4, 7)", x.entry(4, 7), 0);
    LifeLinks y = Check.made("danna:1760;wanna:1720;wanna:1721;wanna:1722;wanna:1723");
    weddings(y, 0, 1, 2, 3);
    weddings(y, 1, 4);
  }

  /** "and there are fewer than three WEDDINGS": a fourth goes to another one that it FITS. */
  private static void promise18FourthGoesToTheNext() {
    LifeLinks x = Check.made("banna:1700;banne:1701;wanna:1720;wanna:1721;wanna:1722");
    Check.enter(x, "wanna:1723");
    Check.due("worth(5, 0)", x.worth(5, 0), 1200);
    Check.due("worth(5, 1)", x.worth(5, 1), 1075);
    weddings(x, 0, 2, 3, 4);
    weddings(x, 1, 5);
  }

  /** "for another one to which it can go": a LIFE with three WEDDINGS is no such. */
  private static void promise18ThreeAreNoRival() {
    LifeLinks x = Check.made("banna:1700;banna:1701;wanna:1720;wanna:1721;wanna:1722");
    for (int wedding = 2; wedding <= 4; wedding++) {
      x.part(1, wedding);
    }
    x.bound(2, 500);
    weddings(x, 0, 2, 3, 4);
    Check.enter(x, "wanna:1723");
    weddings(x, 1, 5);
    Check.due("entry(5, 7)", x.entry(5, 7), 0);
    x.strike(4);
    Check.due("two are a rival", x.entry(4, 7), 1);
  }

  /** "if it can go to none, it has a LIFE of its own": seven alike make LIVES of 3, 3 and 1. */
  private static void promise18WeddingsAlone() {
    LifeLinks x = Check.made(SEVEN_ALIKE, "wanna:1725;wanna:1726");
    weddings(x, 0, 0, 1, 2);
    weddings(x, 1, 3, 4, 5);
    weddings(x, 2, 6);
    lives(x, 3, 0, 0, 0, 0, 1);
  }

  /** "if it can go to none, it has a LIFE of its own, behind all others". */
  private static void promise18GoesToNone() {
    LifeLinks x = Check.made("wotto:1720;banna:1700;wulla:1720;dpit:1760");
    weddings(x, 0);
    weddings(x, 1);
    weddings(x, 2, 0);
    weddings(x, 3, 2);
    LifeLinks y = Check.made("wanna:1720;wanna:1721");
    weddings(y, 0, 0, 1);
    y.part(0, 1);
    weddings(y, 0, 0);
    weddings(y, 1, 1);
  }

  /** "if it FITS all ENTRIES that this has by now": the BIRTH, the BURIAL, each WEDDING. */
  private static void promise18FitsAllByNow() {
    LifeLinks x = Check.made("banna:1700;danna:1740;wanna:1720;wanna:1740;wanna:1741");
    weddings(x, 0, 2, 3);
    weddings(x, 1, 4);
    x.part(3, 2);
    weddings(x, 0, 2);
    weddings(x, 1, 3, 4);
    x.part(2, 0);
    weddings(x, 0, 3);
    weddings(x, 1, 2, 4);
    // By now: one that comes later does not keep it out.
    x.part(2, 0);
    x.part(3, 2);
    x.part(2, 4);
    weddings(x, 0, 2, 3);
    weddings(x, 1, 4);
  }

  /** "it has a LIFE of its own, behind all others": which a later WEDDING goes to. */
  private static void promise18LifeBehindAllOthers() {
    LifeLinks x = Check.made("bpit:1700;wanna:1720;wanna:1721");
    weddings(x, 1, 1, 2);
    Check.enter(x, "botto:1700;dulla:1760");
    weddings(x, 3, 1, 2);
    Check.due("entry(1, 6)", x.entry(1, 6), 3);
    Check.enter(x, "wanna:1722;wxyx:1720;wanna:1723");
    weddings(x, 3, 1, 2, 5);
    weddings(x, 4, 6);
    weddings(x, 5, 7);
    Check.due("lives(0)", x.lives(0), 6);
  }

  /** "there are fewer than three WEDDINGS": when one is struck out, the fourth has room. */
  private static void promise18StruckOutMakesRoom() {
    LifeLinks x = Check.made("banna:1700;wanna:1720;wanna:1721;wanna:1722;wanna:1723");
    weddings(x, 1, 4);
    Check.due("strike(2)", x.strike(2), 4);
    weddings(x, 0, 1, 2, 3);
    Check.due("lives(0)", x.lives(0), 1);
  }

  // ---- promise 18: DOUBT

  /** "is DOUBT or less (.. 40 at first)": a difference of 40, and of 41. */
  private static void promise18DoubtAtFirst() {
    LifeLinks x = Check.made("wanna:1700;danna:1783;danna:1767");
    Check.due("worth(0, 0)", x.worth(0, 0), 1050);
    Check.due("worth(0, 1)", x.worth(0, 1), 1010);
    Check.due("a difference of 40", x.entry(0, 6), NONE);
    LifeLinks y = Check.made("wanna:1700;danna:1783;danna:1766");
    Check.due("worth(0, 1)", y.worth(0, 1), 1009);
    Check.due("a difference of 41", y.entry(0, 6), 0);
  }

  private static void goes(LifeLinks x, int wedding, int doubt, int want) {
    x.bound(2, doubt);
    Check.due("DOUBT " + doubt + ": entry(" + wedding + ", 6)", x.entry(wedding, 6), want);
    Check.due("DOUBT " + doubt + ": entry(" + wedding + ", 7)",
        x.entry(wedding, 7), want == NONE ? 1 : 0);
    Check.due("DOUBT " + doubt + ": lives(3)", x.lives(3), want == NONE ? 1 : 0);
  }

  /** "that greatest WORTH less its own is DOUBT or less": of just DOUBT, and of one more. */
  private static void promise18DoubtJustAndOneMore() {
    LifeLinks x = Check.made("bbit:1700;bpit:1701;wpit:1720");
    Check.due("worth(2, 0)", x.worth(2, 0), 1034);
    Check.due("worth(2, 1)", x.worth(2, 1), 1200);
    goes(x, 2, 165, 1);
    goes(x, 2, 166, NONE);
    goes(x, 2, 167, NONE);
    goes(x, 2, 0, 1);
    goes(x, 2, 500, NONE);
  }

  /** "(of several the least number)": then it is DOUBTFUL, at a DOUBT of 0, too. */
  private static void promise18OfSeveralAsMuch() {
    LifeLinks x = Check.made("bpit:1700;bpit:1701;wpit:1720");
    goes(x, 2, 0, NONE);
    x.part(2, 0);
    goes(x, 2, 0, 1);
    x.part(2, 0);
    x.part(2, 1);
    goes(x, 2, 0, 0);
  }

  /** "for another one": ahead of the one of greatest WORTH, and behind it. */
  private static void promise18RivalAheadAndBehind() {
    LifeLinks x = Check.made("bbit:1700;bpit:1701;bbid:1702;wpit:1720");
    goes(x, 3, 165, 1);
    goes(x, 3, 166, NONE);
    LifeLinks y = Check.made("bbid:1700;bpit:1701;bbit:1702;wpit:1720");
    goes(y, 3, 165, 1);
    goes(y, 3, 166, NONE);
    LifeLinks z = Check.made("bpit:1701;bbid:1700;bbit:1702;wpit:1720");
    goes(z, 3, 165, 0);
    goes(z, 3, 166, NONE);
  }

  /** "for another one to which it can go". */
  private static void promise18OneThatItCannotGoToIsNoRival() {
    LifeLinks x = Check.made("bbit:1700;bpit:1701;wpit:1720");
    x.part(2, 0);
    goes(x, 2, 500, 1);
    x.part(2, 0);
    x.bound(0, 834);
    goes(x, 2, 500, NONE);
    x.bound(0, 835);
    goes(x, 2, 500, 1);
  }

  /** "for another one to which it can go": however little the greatest WORTH is. */
  private static void promise18NoRivalOfLittleWorth() {
    LifeLinks x = Check.made("ba:1700;bh:1701;wl:1720");
    x.bound(0, 0);
    Check.due("worth(2, 0)", x.worth(2, 0), 200);
    goes(x, 2, 500, NONE);
    x.part(2, 0);
    goes(x, 2, 500, 1);
    x.part(2, 0);
    x.part(2, 1);
    goes(x, 2, 500, 0);
    LifeLinks y = Check.made("dh:1700;wl:1700;dh:1699");
    y.bound(0, 0);
    Check.due("worth(1, 0)", y.worth(1, 0), 4);
    Check.due("worth(1, 1)", y.worth(1, 1), NONE);
    goes(y, 1, 500, 0);
  }

  /** "it is DOUBTFUL, and goes to none": it has no LIFE of its own, and none goes to it. */
  private static void promise18DoubtfulIsInNoLife() {
    LifeLinks x = Check.made("banna:1700;banna:1701;wanna:1720.19");
    Check.due("entry(2, 7)", x.entry(2, 7), 1);
    lives(x, 2, 0, 0, 1, 0, 2);
    Check.enter(x, "wanna:1725.21");
    Check.due("it FITS the doubtful one", x.two(2, 3, 2), 0);
    Check.due("and no other", x.fits(3), 1);
    lives(x, 3, 0, 0, 1, 0, 3);
    weddings(x, 0);
    weddings(x, 1);
    weddings(x, 2, 3);
  }

  /** "it is DOUBTFUL, and goes to none": it is not one of three. */
  private static void promise18DoubtfulIsNotOneOfThree() {
    LifeLinks x = Check.made("banna:1700;banna:1701;wanna:1720;wanna:1721;wanna:1722");
    Check.enter(x, "wanna:1723;wanna:1724");
    Check.due("lives(3)", x.lives(3), 5);
    x.part(1, 4);
    x.part(1, 5);
    x.part(1, 6);
    weddings(x, 0, 4, 5, 6);
    Check.due("lives(3)", x.lives(3), 2);
    Check.due("life(0, 6)", x.life(0, 6), 4);
  }

  /** "for another one to which it can go": a LIFE of WEDDINGS alone is one. */
  private static void promise18LifeOfItsOwnIsARival() {
    LifeLinks x = Check.made("banna:1700;wanna:1720.20;wanna:1720");
    x.part(0, 1);
    Check.due("two(0, 2, 3)", x.two(0, 2, 3), 1200);
    Check.due("two(1, 2, 3)", x.two(1, 2, 3), 1050);
    goes(x, 2, 149, 0);
    goes(x, 2, 150, NONE);
  }

  // ---- promise 18: WORTH

  /** "together, divided by how many these are, rounded down": a BIRTH and a BURIAL. */
  private static void promise18WorthOfBirthAndBurial() {
    LifeLinks x = Check.made("bpit:1700;dpid:1760;wbit:1720;bbit:1701");
    Check.due("two(0, 2, 3)", x.two(0, 2, 3), 1034);
    Check.due("two(1, 2, 3)", x.two(1, 2, 3), 671);
    Check.due("worth(2, 0), of 852 and a half", x.worth(2, 0), 852);
    Check.due("worth(2, 1)", x.worth(2, 1), 1200);
    goes(x, 2, 347, 1);
    goes(x, 2, 348, NONE);
  }

  /** "(those that it has; ..)": a BURIAL alone. */
  private static void promise18WorthOfBurialAlone() {
    LifeLinks x = Check.made("dpit:1760;wpit:1720.20;bbit:1700");
    x.part(2, 0);
    Check.due("worth(1, 0)", x.worth(1, 0), 1034);
    Check.due("worth(1, 1)", x.worth(1, 1), 1050);
    goes(x, 1, 15, 1);
    goes(x, 1, 16, NONE);
  }

  /** "if it has neither, of it and each WEDDING there .. rounded down". */
  private static void promise18WorthOfWeddingsRoundedDown() {
    LifeLinks x = Check.made("wpit:1720.20;wbid:1720.20;wpit:1720.20;wpit:1720.20");
    x.part(2, 0);
    Check.due("two(3, 0, 3)", x.two(3, 0, 3), 1050);
    Check.due("two(3, 1, 3)", x.two(3, 1, 3), 717);
    // At the first one it is worth 883 and a half, at the second one 1050.
    x.bound(2, 166);
    weddings(x, 0, 0, 1);
    weddings(x, 1, 2, 3);
    x.bound(2, 167);
    weddings(x, 1, 2);
    Check.due("entry(3, 7)", x.entry(3, 7), 1);
  }

  /** "(.. if it has neither, ..)": with a BIRTH the WEDDINGS there do not count. */
  private static void promise18WeddingsDoNotCountBesideBirth() {
    LifeLinks x = Check.made("bpit:1700;bbit:1701;wpit:1720;wbid:1720;wpit:1721");
    x.part(3, 1);
    goes(x, 4, 165, 0);
    weddings(x, 0, 2, 3, 4);
    x.bound(2, 166);
    Check.due("1200 and 1034", x.entry(4, 6), NONE);
  }
}
