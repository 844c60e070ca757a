/** Promises 16 to 20: lives, life, wedding, worth, mate. */
public final class LivesTest {
  private static final int NONE = LifeLinks.NONE;
  private static final int UNKNOWN = LifeLinks.UNKNOWN;
  private static final int OUTSIDE = LifeLinks.OUTSIDE;
  private static final int[] FAR = {-1, -2, 18, 19, Integer.MIN_VALUE, Integer.MAX_VALUE};

  public static void main(String[] args) {
    promise16Lives();
    promise16LivesOfEighteen();
    promise16LivesShaky();
    promise16LivesShakyByItsBirth();
    promise16LivesShakyBelowNothing();
    promise17Life();
    promise17LifeWithoutBirth();
    promise17LifeOrder();
    promise17LifeRefusals();
    promise18Wedding();
    promise18WeddingFewerThanThree();
    promise18WeddingFitsAll();
    promise18WeddingsOfTheirOwn();
    promise18WeddingWorthOfItsBirthAlone();
    promise18WeddingDoubtful();
    promise18WeddingDoubtCountsEachLife();
    promise19Worth();
    promise19WorthWithoutWeddings();
    promise19WorthRefusals();
    promise20Mate();
    promise20MateTogetherWorthMost();
    promise20MateOfSeveral();
    promise20MateFirstUnlikeBirth();
    promise20MateSeven();
    promise20MateRefusals();
    Check.end();
  }

  private static void lives(LifeLinks x, int... wants) {
    for (int what = 0; what < wants.length; what++) {
      Check.due("lives(" + what + ")", x.lives(what), wants[what]);
    }
  }

  private static void life(LifeLinks x, int life, int... wants) {
    for (int what = 0; what < wants.length; what++) {
      Check.due("life(" + life + ", " + what + ")", x.life(life, what), wants[what]);
    }
  }

  private static void weddings(LifeLinks x, int life, int... wants) {
    for (int place = 0; place < wants.length; place++) {
      Check.due("wedding(" + life + ", " + place + ")", x.wedding(life, place), wants[place]);
    }
    Check.due("wedding behind the last", x.wedding(life, wants.length), UNKNOWN);
    Check.due("life(" + life + ", 2)", x.life(life, 2), wants.length);
  }

  /**
   * "int lives(int what): What = 0 how many LIVES, 1 how many pairs by MATCH, 2 their WORTH
   * together, 3 how many WEDDINGS are DOUBTFUL, 4 how many LIVES are SHAKY, 5 how many LIVES have
   * an only ENTRY. OUTSIDE."
   */
  private static void promise16Lives() {
    LifeLinks x = Check.made("banna:1700;wana:1722.21;dhana:1760.59;dotto:1800", "wanna:1725");
    lives(x, 3, 0, 0, 0, 0, 2);
    Check.enter(x, "danna:1770");
    lives(x, 3, 1, 1200, 0, 0, 2);
    Check.enter(x, "banna:1702;wanna:1726");
    lives(x, 4, 1, 1200, 0, 1, 2);
    x.bound(2, 98);
    lives(x, 4, 1, 1200, 3, 1, 3);
    for (int far : FAR) {
      Check.due("lives(" + far + ")", x.lives(far), OUTSIDE);
    }
    Check.due("lives(6)", x.lives(6), OUTSIDE);
  }

  private static LifeLinks eighteenLives() {
    LifeLinks x = Check.made("ba:1700;bb:1700;bc:1700;bd:1700;be:1700;bf:1700;bg:1700",
        "dh:1750;di:1750;dj:1750;dk:1750;dl:1750;dm:1750;dn:1750",
        "wo:1720;wp:1720;wq:1720;wr:1720");
    x.bound(0, 1000);
    return x;
  }

  /** "What = 0 how many LIVES": as many as ENTRIES. */
  private static void promise16LivesOfEighteen() {
    LifeLinks x = eighteenLives();
    lives(x, 18, 0, 0, 0, 0, 18);
    life(x, 0, 0, NONE, 0, 1700, 1700, 0, 1, 1700);
    life(x, 7, NONE, 7, 0, 1650, 1750, 0, 1, 1750);
    life(x, 17, NONE, NONE, 1, 1660, 1706, 0, 1, 1720);
    Check.due("life(18, 0)", x.life(18, 0), UNKNOWN);
    Check.due("wedding(17, 0)", x.wedding(17, 0), 17);
    Check.due("entry(17, 6)", x.entry(17, 6), 17);
    Check.due("worth(17, 13)", x.worth(17, 13), NONE);
    Check.due("worth(17, 14)", x.worth(17, 14), UNKNOWN);
    Check.due("digest()", x.digest(),
        Check.folded(new Asked(LivesTest::eighteenLives).numbers("")));
  }

  /** "4 how many LIVES are SHAKY": by another BURIAL. */
  private static void promise16LivesShaky() {
    LifeLinks x = Check.made("bpit:1700;dpit:1750.50;dbit:1751.51");
    Check.due("two(0, 1, 3)", x.two(0, 1, 3), 1200);
    Check.due("two(0, 2, 3)", x.two(0, 2, 3), 1034);
    lives(x, 2, 1, 1200, 0, 0, 1);
    x.bound(2, 165);
    life(x, 0, 0, 1, 0, 1700, 1700, 0, 2, 1750);
    x.bound(2, 166);
    lives(x, 2, 1, 1200, 0, 1, 1);
    life(x, 0, 0, 1, 0, 1700, 1700, 1, 2, 1750);
    Check.due("one with no birth is not shaky", x.life(1, 5), 0);
    x.part(0, 2);
    lives(x, 2, 1, 1200, 0, 0, 1);
  }

  /** "4 how many LIVES are SHAKY": by another BIRTH. */
  private static void promise16LivesShakyByItsBirth() {
    LifeLinks x = Check.made("bbit:1700;bpit:1700;dpit:1750.50");
    x.bound(2, 165);
    lives(x, 2, 1, 1200, 0, 0, 1);
    x.bound(2, 166);
    lives(x, 2, 1, 1200, 0, 1, 1);
    Check.due("life(1, 5)", x.life(1, 5), 1);
    Check.due("one with no burial is not shaky", x.life(0, 5), 0);
    x.part(0, 2);
    lives(x, 2, 1, 1200, 0, 0, 1);
  }

  /** "4 how many LIVES are SHAKY": by one that is worth more. */
  private static void promise16LivesShakyBelowNothing() {
    // The pair of most WORTH is not taken, so each life's own is less than another one.
    LifeLinks x = Check.made("banna:1700;bhanna:1700;danna:1750.50;dannas:1750.50");
    x.bound(0, 700);
    x.bound(2, 0);
    lives(x, 2, 2, 2000, 0, 2, 0);
    Check.due("mate(0)", x.mate(0), 3);
    Check.due("mate(1)", x.mate(1), 2);
  }

  /**
   * "int life(int life, int what): Of a LIFE: what = 0 its BIRTH (NONE), 1 its BURIAL (NONE), 2 how
   * many WEDDINGS, 3 the first year BORN (NONE), 4 the last one (NONE), 5 whether it is SHAKY (1,
   * 0), 6 how many ENTRIES, 7 the YEAR of its last ENTRY by YEARS."
   */
  private static void promise17Life() {
    LifeLinks x = Check.made("wana:1722.21;banna:1700;danna:1760.59;wanna:1740", "banne:1640");
    life(x, 0, 1, 2, 2, 1700, 1700, 0, 4, 1760);
    life(x, 1, 4, NONE, 0, 1640, 1640, 0, 1, 1640);
    Check.due("lives(0)", x.lives(0), 2);
    x.strike(2);
    life(x, 0, 1, NONE, 2, 1700, 1700, 0, 3, 1740);
    x.strike(1);
    life(x, 0, 2, NONE, 0, 1640, 1640, 0, 1, 1640);
    life(x, 1, NONE, NONE, 2, 1699, 1702, 0, 2, 1740);
    x.strike(2);
    x.strike(1);
    life(x, 0, NONE, NONE, 1, 1699, 1702, 0, 1, 1722);
  }

  /**
   * "3 the first year BORN (NONE), 4 the last one (NONE)": what a BURIAL and WEDDINGS have in
   * common.
   */
  private static void promise17LifeWithoutBirth() {
    LifeLinks x = Check.made("danna:1760.60;wanna:1725;wanna:1724.22");
    life(x, 0, NONE, 0, 2, 1700, 1701, 0, 3, 1760);
    Check.due("mate(0)", x.mate(0), NONE);
    x.age(0, NONE);
    life(x, 0, NONE, 0, 2, 1700, 1703, 0, 3, 1760);
    x.age(2, NONE);
    life(x, 0, NONE, 0, 2, 1665, 1710, 0, 3, 1760);
  }

  /** "LIVES are numbered from 0": BIRTHS, then BURIALS, then WEDDINGS of their own. */
  private static void promise17LifeOrder() {
    LifeLinks x = Check.made("dotto:1700;wulla:1790;danna:1760;bxy:1620;banna:1700");
    life(x, 0, 3, NONE, 0, 1620, 1620, 0, 1, 1620);
    life(x, 1, 4, 2, 0, 1700, 1700, 0, 2, 1760);
    life(x, 2, NONE, 0, 0, 1600, 1700, 0, 1, 1700);
    life(x, 3, NONE, NONE, 1, 1730, 1776, 0, 1, 1790);
    int[] lifeOf = {2, 3, 1, 0, 1};
    for (int entry = 0; entry < lifeOf.length; entry++) {
      Check.due("entry(" + entry + ", 6)", x.entry(entry, 6), lifeOf[entry]);
    }
  }

  /** "UNKNOWN: life; OUTSIDE: what." */
  private static void promise17LifeRefusals() {
    LifeLinks x = Check.made("banna:1700;wober:1720");
    for (int far : FAR) {
      Check.due("life(" + far + ", 0)", x.life(far, 0), UNKNOWN);
      Check.due("life(" + far + ", 8)", x.life(far, 8), UNKNOWN);
      Check.due("life(0, " + far + ")", x.life(0, far), OUTSIDE);
    }
    Check.due("life(2, 0)", x.life(2, 0), UNKNOWN);
    Check.due("life(2, 8)", x.life(2, 8), UNKNOWN);
    Check.due("life(1, 8)", x.life(1, 8), OUTSIDE);
    Check.due("life(1, 0)", x.life(1, 0), NONE);
  }

  /**
   * "int wedding(int life, int place): A WEDDING of a LIFE, in the order of numbers. UNKNOWN: life,
   * place (from 0)."
   */
  private static void promise18Wedding() {
    LifeLinks x = Check.made("wanna:1730;banna:1700;wanna:1720;danna:1770");
    weddings(x, 0, 0, 2);
    for (int far : FAR) {
      Check.due("wedding(" + far + ", 0)", x.wedding(far, 0), UNKNOWN);
      Check.due("wedding(0, " + far + ")", x.wedding(0, far), UNKNOWN);
    }
    Check.due("wedding(1, 0)", x.wedding(1, 0), UNKNOWN);
    x.strike(0);
    weddings(x, 0, 1);
    x.strike(1);
    weddings(x, 0);
  }

  /** "and there are fewer than three WEDDINGS". */
  private static void promise18WeddingFewerThanThree() {
    LifeLinks x = Check.made("wanna:1720;wanna:1721;wanna:1722;wanna:1723;banna:1700");
    lives(x, 2, 0, 0, 0, 0, 1);
    weddings(x, 0, 0, 1, 2);
    weddings(x, 1, 3);
    Check.enter(x, "wanna:1724;wanna:1725;wanna:1719");
    weddings(x, 0, 0, 1, 2);
    weddings(x, 1, 3, 5, 6);
    Check.due("entry(6, 6)", x.entry(6, 6), 1);
    x.part(6, 3);
    weddings(x, 1, 3, 5);
    weddings(x, 2, 6);
    Check.due("of as much worth at two lives", x.entry(7, 7), 1);
  }

  /** "it can go to a LIFE, if it FITS all ENTRIES that this has by now". */
  private static void promise18WeddingFitsAll() {
    LifeLinks x = Check.made("banna:1700;danna:1770;wanna:1720;wanna:1725;wanna:1800");
    weddings(x, 0, 2, 3);
    weddings(x, 1, 4);
    x.part(3, 2);
    weddings(x, 0, 2);
    weddings(x, 1, 3);
    Check.due("a wedding behind the burial", x.entry(4, 6), 2);
    x.part(2, 1);
    weddings(x, 0, 3);
    weddings(x, 1, 2);
  }

  /** "if it has neither, of it and each WEDDING there". */
  private static void promise18WeddingsOfTheirOwn() {
    LifeLinks x = Check.made("wanna:1720.20;wana:1720.20;wanna:1721.21");
    Check.due("two(0, 1, 3)", x.two(0, 1, 3), 800);
    Check.due("two(0, 2, 3)", x.two(0, 2, 3), 1050);
    weddings(x, 0, 0, 1, 2);
    x.part(0, 1);
    weddings(x, 0, 0, 2);
    weddings(x, 1, 1);
    Check.enter(x, "wanna:1722.22");
    Check.due("(1050 + 1050) / 2 against 800", x.entry(3, 6), 0);
    x.bound(2, 249);
    Check.due("DOUBT 249: entry(2, 6)", x.entry(2, 6), 0);
    Check.due("DOUBT 249: entry(3, 6)", x.entry(3, 6), 0);
    x.bound(2, 250);
    Check.due("DOUBT 250: entry(2, 7)", x.entry(2, 7), 1);
    Check.due("DOUBT 250: entry(3, 7)", x.entry(3, 7), 1);
    lives(x, 2, 0, 0, 2, 0, 2);
  }

  /** "the WORTH of it and the BIRTH". */
  private static void promise18WeddingWorthOfItsBirthAlone() {
    // With the wedding that is there already, the first life would be worth less: 977.
    LifeLinks x = Check.made("banna:1700;banne:1701;wana:1720;wanna:1721");
    weddings(x, 0, 2, 3);
    weddings(x, 1);
    x.bound(2, 125);
    Check.due("1200 and 1075, DOUBT 125", x.entry(3, 7), 1);
  }

  /** "if for another one to which it can go that greatest WORTH less its own is DOUBT or less". */
  private static void promise18WeddingDoubtful() {
    LifeLinks x = Check.made("bbit:1700;bpit:1701;wpit:1720");
    Check.due("two(0, 2, 3)", x.two(0, 2, 3), 1034);
    Check.due("two(1, 2, 3)", x.two(1, 2, 3), 1200);
    weddings(x, 1, 2);
    x.bound(2, 165);
    weddings(x, 1, 2);
    weddings(x, 0);
    x.bound(2, 166);
    weddings(x, 1);
    weddings(x, 0);
    lives(x, 2, 0, 0, 1, 0, 2);
    Check.due("entry(2, 6)", x.entry(2, 6), NONE);
    Check.due("entry(2, 7)", x.entry(2, 7), 1);
    LifeLinks y = Check.made("bpit:1700;bpit:1701;wpit:1720");
    y.bound(2, 0);
    lives(y, 2, 0, 0, 1, 0, 2);
  }

  /** "for another one to which it can go": any of them. */
  private static void promise18WeddingDoubtCountsEachLife() {
    // The rivals are worth 1034, 1034 and 867, the best one 1200.
    LifeLinks x = Check.made("bpit:1700;bbit:1701;bpid:1702;bbid:1703;wpit:1720");
    x.bound(2, 100);
    Check.due("entry(4, 6)", x.entry(4, 6), 0);
    x.bound(2, 166);
    Check.due("entry(4, 6)", x.entry(4, 6), NONE);
    x.part(1, 4);
    Check.due("entry(4, 6)", x.entry(4, 6), NONE);
    x.part(2, 4);
    Check.due("entry(4, 6)", x.entry(4, 6), 0);
    x.bound(2, 333);
    Check.due("entry(4, 6)", x.entry(4, 6), NONE);
    // A doubtful wedding is in no life, so the next one has no life with it to go to.
    Check.enter(x, "wpitt:1725");
    Check.due("lives(0)", x.lives(0), 4);
  }

  /**
   * "int worth(int entry, int life): WORTH of a WEDDING at a LIFE as LIVES are by MATCH; NONE: it
   * does not FIT all ENTRIES of it."
   */
  private static void promise19Worth() {
    LifeLinks x = Check.made("banna:1700;danna:1770.69;wana:1720;wotto:1720;banna:1640");
    Check.due("worth of the birth", x.two(0, 2, 3), 950);
    Check.due("worth of the burial", x.two(1, 2, 3), 800);
    Check.due("worth(2, 0)", x.worth(2, 0), 875);
    Check.due("worth(2, 1)", x.worth(2, 1), NONE);
    Check.due("worth(3, 0)", x.worth(3, 0), NONE);
    x.age(2, 20);
    Check.due("worth of the burial", x.two(1, 2, 3), 816);
    Check.due("worth(2, 0)", x.worth(2, 0), 883);
    x.part(2, 1);
    Check.due("worth(2, 0), parted", x.worth(2, 0), NONE);
    x.strike(0);
    Check.due("of a burial alone, parted", x.worth(1, 1), NONE);
    x.part(0, 1);
    Check.due("of a burial alone", x.worth(1, 1), 816);
    LifeLinks y = Check.made("bpit:1700;dpid:1760;wbit:1720");
    Check.due("1034 and 671, rounded down", y.worth(2, 0), 852);
  }

  /** "as LIVES are by MATCH, without any WEDDINGS". */
  private static void promise19WorthWithoutWeddings() {
    LifeLinks x = Check.made("banna:1700;wanna:1720;wanna:1721;wanna:1722;wanna:1723");
    for (int wedding = 1; wedding <= 4; wedding++) {
      Check.due("worth(" + wedding + ", 0)", x.worth(wedding, 0), 1200);
    }
    Check.due("a life of a wedding", x.worth(1, 1), UNKNOWN);
    Check.due("lives(0)", x.lives(0), 2);
    x.part(3, 1);
    Check.due("worth(3, 0), parted from a wedding", x.worth(3, 0), 1200);
    Check.due("entry(3, 6)", x.entry(3, 6), 1);
    LifeLinks y = Check.made("banna:1700;banna:1701;wanna:1720");
    Check.due("worth of a doubtful one", y.worth(2, 1), 1200);
    Check.due("entry(2, 7)", y.entry(2, 7), 1);
  }

  /** "UNKNOWN: entry (a WEDDING), life (one with a BIRTH or a BURIAL)." */
  private static void promise19WorthRefusals() {
    LifeLinks x = Check.made("banna:1700;danna:1770;wanna:1720;wotto:1720");
    for (int far : FAR) {
      Check.due("worth(" + far + ", 0)", x.worth(far, 0), UNKNOWN);
      Check.due("worth(2, " + far + ")", x.worth(2, far), UNKNOWN);
    }
    Check.due("worth(0, 0)", x.worth(0, 0), UNKNOWN);
    Check.due("worth(1, 0)", x.worth(1, 0), UNKNOWN);
    Check.due("worth(4, 0)", x.worth(4, 0), UNKNOWN);
    Check.due("worth(2, 1)", x.worth(2, 1), UNKNOWN);
    Check.due("worth(2, 0)", x.worth(2, 0), 1102);
  }

  /**
   * "int mate(int entry): The BURIAL that a BIRTH has by MATCH, or the BIRTH that a BURIAL has;
   * NONE."
   */
  private static void promise20Mate() {
    LifeLinks x = Check.made("danna:1770;banna:1700;bpit:1700;dpid:1760;botto:1700");
    int[] mates = {1, 0, 3, 2, NONE};
    for (int entry = 0; entry < mates.length; entry++) {
      Check.due("mate(" + entry + ")", x.mate(entry), mates[entry]);
    }
    lives(x, 3, 2, 1200 + 1034, 0, 0, 1);
    x.part(2, 3);
    Check.due("mate(2), parted", x.mate(2), NONE);
    Check.due("mate(3), parted", x.mate(3), NONE);
    x.strike(0);
    Check.due("mate(0), the burial is struck out", x.mate(0), NONE);
  }

  /** "so that their WORTH together is greatest". */
  private static void promise20MateTogetherWorthMost() {
    LifeLinks x = Check.made("banna:1700;bhanna:1700;danna:1750.50;dannas:1750.50");
    x.bound(0, 601);
    Check.due("mate(0)", x.mate(0), 3);
    Check.due("mate(1)", x.mate(1), 2);
    Check.due("lives(2)", x.lives(2), 2000);
    x.bound(0, 801);
    Check.due("mate(0)", x.mate(0), 2);
    Check.due("mate(1)", x.mate(1), NONE);
    Check.due("lives(2)", x.lives(2), 1200);
  }

  /** "of several that which .. has the BURIAL of the lesser number". */
  private static void promise20MateOfSeveral() {
    // 1000 and 600 are worth as much together as 800 and 800.
    LifeLinks x = Check.made("banna:1700;bhanna:1700;danna:1750.50;dannas:1750.50");
    Check.due("mate(0)", x.mate(0), 2);
    Check.due("mate(1)", x.mate(1), 3);
    Check.due("lives(2)", x.lives(2), 2000);
    LifeLinks y = Check.made("banna:1700;bhanna:1700;dannas:1750.50;danna:1750.50");
    Check.due("mate(0)", y.mate(0), 2);
    Check.due("mate(1)", y.mate(1), 3);
    Check.due("lives(2)", y.lives(2), 2000);
  }

  /** "at the first BIRTH for which they are unlike". */
  private static void promise20MateFirstUnlikeBirth() {
    LifeLinks x = Check.made("danna:1750.50;banna:1700;banna:1700;banna:1701");
    Check.due("none counts as the greatest", x.mate(0), 1);
    Check.due("mate(2)", x.mate(2), NONE);
    Check.enter(x, "danna:1750.50");
    Check.due("mate(1)", x.mate(1), 0);
    Check.due("mate(2)", x.mate(2), 4);
    Check.due("mate(3)", x.mate(3), NONE);
    x.part(1, 0);
    Check.due("mate(1), parted", x.mate(1), 4);
    Check.due("mate(2), parted", x.mate(2), 0);
  }

  /** "of each KIND seven at most": seven pairs. */
  private static void promise20MateSeven() {
    LifeLinks x = Check.made("ba:1700;ba:1700;ba:1700;ba:1700;ba:1700;ba:1700;ba:1700",
        "da:1750;da:1750;da:1750;da:1750;da:1750;da:1750;da:1750");
    for (int birth = 0; birth < 7; birth++) {
      Check.due("mate(" + birth + ")", x.mate(birth), birth + 7);
    }
    lives(x, 7, 7, 8400, 0, 7, 0);
    // Each is parted from the burial that it had.
    for (int birth = 0; birth < 7; birth++) {
      x.part(birth, birth + 7);
    }
    int[] mates = {8, 7, 10, 9, 12, 13, 11};
    for (int birth = 0; birth < 7; birth++) {
      Check.due("mate(" + birth + "), parted", x.mate(birth), mates[birth]);
    }
    Check.due("lives(2)", x.lives(2), 8400);
  }

  /** "UNKNOWN: entry (a BIRTH or BURIAL)." */
  private static void promise20MateRefusals() {
    LifeLinks x = Check.made("banna:1700;danna:1770;wanna:1720");
    for (int far : FAR) {
      Check.due("mate(" + far + ")", x.mate(far), UNKNOWN);
    }
    Check.due("mate(2)", x.mate(2), UNKNOWN);
    Check.due("mate(3)", x.mate(3), UNKNOWN);
  }
}
