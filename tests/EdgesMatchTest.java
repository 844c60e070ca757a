/**
 * Promises 19 and 20 at their edges: for each sentence of the document that names a boundary case a
 * test of its own, with the sentence's words ahead of it.
 */
public final class EdgesMatchTest {
  private static final int NONE = LifeLinks.NONE;
  private static final int UNKNOWN = LifeLinks.UNKNOWN;
  private static final int LAST = Edges.FULLEST - 1;

  public static void main(String[] args) {
    promise19Refusals();
    promise19Worth();
    promise20Refusals();
    promise20Match();
    promise20OfSeveral();
    Check.end();
  }

  private static void promise19Refusals() {
    promise19UnknownEntry();
    promise19UnknownABirthOrABurial();
    promise19UnknownLife();
    promise19UnknownALifeOfWeddingsAlone();
    promise19UnknownBoth();
    promise19NoLifeByMatch();
  }

  private static void promise19Worth() {
    promise19FirstAndLastLife();
    promise19NoneForEachEntryThatDoesNotFit();
    promise19RoundedDown();
    promise19ThreeWeddingsThere();
    promise19PartedFromAWeddingThere();
    promise19OfADoubtfulOne();
    promise19OfOneWithALifeOfItsOwn();
  }

  private static void promise20Refusals() {
    promise20Unknown();
    promise20UnknownAWedding();
    promise20None();
    promise20FirstAndLast();
  }

  private static void promise20Match() {
    promise20AtLeast();
    promise20NoneInTwoPairs();
    promise20TogetherGreatest();
    promise20SevenBySeven();
    promise20SevenBirthsOneBurial();
    promise20SevenBurialsOneBirth();
    promise20FewerThanBefore();
  }

  private static void promise20OfSeveral() {
    promise20LesserBurial();
    promise20NoneCountsAsTheGreatest();
    promise20FirstBirthForWhichTheyAreUnlike();
    promise20FewerPairsOfAsMuchWorth();
    promise20NumbersNotOrderOfKinds();
    promise20SevenOfSeveral();
  }

  // ---- promise 19: refusals

  private static LifeLinks five() {
    return Check.made("banna:1700;danna:1770;wanna:1720;wotto:1720;wulla:1720");
  }

  /** "UNKNOWN: entry". */
  private static void promise19UnknownEntry() {
    LifeLinks x = five();
    Edges.refusedOutside(x, "worth(.., 0)", n -> x.worth(n, 0), UNKNOWN, 0, 4);
    LifeLinks full = Edges.fullest();
    Edges.refusedOutside(full, "worth(.., 0)", n -> full.worth(n, 0), UNKNOWN, 0, LAST);
  }

  /** "UNKNOWN: entry (a WEDDING)". */
  private static void promise19UnknownABirthOrABurial() {
    LifeLinks x = five();
    Edges.refused(x, "worth(.., 0)", n -> x.worth(n, 0), UNKNOWN, 0, 1);
    LifeLinks full = Edges.fullest();
    Edges.refused(full, "worth(.., 0)", n -> full.worth(n, 0), UNKNOWN, 0, 6, 14, LAST);
    Check.due("worth(7, 0)", full.worth(7, 0), 1102);
  }

  /** "UNKNOWN: .. life". */
  private static void promise19UnknownLife() {
    LifeLinks x = five();
    Edges.refusedOutside(x, "worth(2, ..)", n -> x.worth(2, n), UNKNOWN, 0, 0);
    Edges.refused(x, "worth(2, ..)", n -> x.worth(2, n), UNKNOWN, 3, 4, 17, 18);
  }

  /** "life (one with a BIRTH or a BURIAL)": the first LIFE of WEDDINGS alone, and the next ones. */
  private static void promise19UnknownALifeOfWeddingsAlone() {
    LifeLinks x = five();
    Check.due("lives(0)", x.lives(0), 3);
    for (int wedding = 2; wedding <= 4; wedding++) {
      int one = wedding;
      Edges.refused(x, "worth(" + one + ", ..)", n -> x.worth(one, n), UNKNOWN, 1, 2);
    }
    Check.due("worth(3, 0)", x.worth(3, 0), NONE);
  }

  /** "UNKNOWN: entry .., life": both at once. */
  private static void promise19UnknownBoth() {
    LifeLinks x = five();
    Edges.refusedOutside(x, "worth(.., 3)", n -> x.worth(n, 3), UNKNOWN, 0, 4);
    Edges.refusedOutside(x, "worth(0, ..)", n -> x.worth(0, n), UNKNOWN, 0, 2);
  }

  /** "life (one with a BIRTH or a BURIAL)": there is none. */
  private static void promise19NoLifeByMatch() {
    LifeLinks x = Check.made("wanna:1720;wotto:1720");
    Edges.refused(x, "worth(0, ..)", n -> x.worth(0, n), UNKNOWN, 0, 1, 2, -1);
  }

  // ---- promise 19: WORTH

  /** "life": the first one, and the last one that has a BIRTH or a BURIAL. */
  private static void promise19FirstAndLastLife() {
    LifeLinks x = Check.made("danna:1783;bpit:1700;wanna:1700;banna:1680;dpit:1783");
    Check.due("lives(1)", x.lives(1), 1);
    Check.due("worth(2, 0)", x.worth(2, 0), NONE);
    Check.due("worth(2, 1)", x.worth(2, 1), 1200);
    Check.due("worth(2, 2)", x.worth(2, 2), 1050);
    Check.due("worth(2, 3)", x.worth(2, 3), UNKNOWN);
  }

  /** "NONE: it does not FIT all ENTRIES of it": one of two, the other one, both, the only one. */
  private static void promise19NoneForEachEntryThatDoesNotFit() {
    LifeLinks x = Check.made("banna:1700;danna:1770;wanna:1720");
    Check.due("worth(2, 0)", x.worth(2, 0), 1102);
    x.part(0, 2);
    Check.due("not the birth", x.worth(2, 0), NONE);
    x.part(1, 2);
    Check.due("neither", x.worth(2, 0), NONE);
    x.part(0, 2);
    Check.due("not the burial", x.worth(2, 0), NONE);
    x.strike(0);
    Check.due("not the burial alone", x.worth(1, 0), NONE);
    x.part(0, 1);
    Check.due("the burial alone", x.worth(1, 0), 1005);
    LifeLinks y = Check.made("banna:1700;wotto:1720");
    Check.due("not the birth alone", y.worth(1, 0), NONE);
  }

  /** "together, divided by how many these are, rounded down". */
  private static void promise19RoundedDown() {
    LifeLinks x = Check.made("bpit:1700;dpid:1760;wbit:1720");
    Check.due("1034 and 671", x.two(0, 2, 3) + x.two(1, 2, 3), 1705);
    Check.due("worth(2, 0)", x.worth(2, 0), 852);
    LifeLinks y = Check.made("bpit:1700;dpit:1783;wpit:1720");
    Check.due("1200 and 1008", y.two(0, 2, 3) + y.two(1, 2, 3), 2208);
    Check.due("worth(2, 0)", y.worth(2, 0), 1104);
  }

  /** "as LIVES are by MATCH, without any WEDDINGS": three are there. */
  private static void promise19ThreeWeddingsThere() {
    LifeLinks x = Check.made("banna:1700;wanna:1720;wanna:1721;wanna:1722;wanna:1723");
    Check.due("life(0, 2)", x.life(0, 2), 3);
    Check.due("entry(4, 6)", x.entry(4, 6), 1);
    for (int wedding = 1; wedding <= 4; wedding++) {
      Check.due("worth(" + wedding + ", 0)", x.worth(wedding, 0), 1200);
    }
  }

  /** "as LIVES are by MATCH, without any WEDDINGS": one is there that it does not FIT. */
  private static void promise19PartedFromAWeddingThere() {
    LifeLinks x = Check.made("banna:1700;wanna:1720;wanna:1721");
    x.part(1, 2);
    Check.due("entry(2, 6)", x.entry(2, 6), 1);
    Check.due("worth(2, 0)", x.worth(2, 0), 1200);
    Check.due("worth(1, 0)", x.worth(1, 0), 1200);
  }

  /** "WORTH of a WEDDING at a LIFE": of one that is DOUBTFUL. */
  private static void promise19OfADoubtfulOne() {
    LifeLinks x = Check.made("banna:1700;banna:1701;wanna:1720");
    Check.due("entry(2, 7)", x.entry(2, 7), 1);
    Check.due("worth(2, 0)", x.worth(2, 0), 1200);
    Check.due("worth(2, 1)", x.worth(2, 1), 1200);
  }

  /** "WORTH of a WEDDING at a LIFE": of one that has a LIFE of its own. */
  private static void promise19OfOneWithALifeOfItsOwn() {
    LifeLinks x = Check.made("banna:1700;danna:1770;wotto:1720");
    Check.due("entry(2, 6)", x.entry(2, 6), 1);
    Check.due("worth(2, 0)", x.worth(2, 0), NONE);
    Check.due("worth(2, 1)", x.worth(2, 1), UNKNOWN);
    x.bound(0, 0);
    Check.due("450 and 255", x.worth(2, 0), 352);
  }

  // ---- promise 20: refusals

  /** "UNKNOWN: entry". */
  private static void promise20Unknown() {
    LifeLinks x = five();
    Edges.refusedOutside(x, "mate", x::mate, UNKNOWN, 0, 4);
    LifeLinks full = Edges.fullest();
    Edges.refusedOutside(full, "mate", full::mate, UNKNOWN, 0, LAST);
  }

  /** "UNKNOWN: entry (a BIRTH or BURIAL)". */
  private static void promise20UnknownAWedding() {
    LifeLinks x = five();
    Edges.refused(x, "mate", x::mate, UNKNOWN, 2, 3, 4);
    LifeLinks full = Edges.fullest();
    Edges.refused(full, "mate", full::mate, UNKNOWN, 7, 10, 13);
  }

  /** "The BURIAL that a BIRTH has by MATCH, or the BIRTH that a BURIAL has; NONE". */
  private static void promise20None() {
    LifeLinks x = Check.made("banna:1700;dotto:1760");
    Check.due("mate(0)", x.mate(0), NONE);
    Check.due("mate(1)", x.mate(1), NONE);
    Check.due("mate(0) of one alone", Check.made("banna:1700").mate(0), NONE);
    Check.due("mate(0) of one alone", Check.made("danna:1700").mate(0), NONE);
  }

  /** "UNKNOWN: entry": the least number and the greatest one. */
  private static void promise20FirstAndLast() {
    LifeLinks x = Check.made(Edges.SEVEN_BIRTHS, Edges.SEVEN_WEDDINGS, "do:1760;di:1761;dl:1762");
    Check.enter(x, "da:1763");
    Check.due("mate(0)", x.mate(0), LAST);
    Check.due("mate(17)", x.mate(LAST), 0);
    Check.due("mate(6)", x.mate(6), NONE);
    Check.due("mate(14)", x.mate(14), NONE);
  }

  // ---- promise 20: MATCH

  private static void mates(LifeLinks x, int... wants) {
    for (int entry = 0; entry < wants.length; entry++) {
      Check.due("mate(" + entry + ")", x.mate(entry), wants[entry]);
    }
  }

  /** "pairs of a BIRTH and a BURIAL that FIT": at just LEAST, and one below. */
  private static void promise20AtLeast() {
    LifeLinks x = Check.made("bpit:1700;dbit:1750");
    x.bound(0, 834);
    mates(x, 1, 0);
    Check.due("lives(2)", x.lives(2), 1034);
    x.bound(0, 835);
    mates(x, NONE, NONE);
    Check.due("lives(2)", x.lives(2), 0);
  }

  /** "none in two of them". */
  private static void promise20NoneInTwoPairs() {
    LifeLinks x = Check.made("bpit:1700;bpit:1701;dpit:1750");
    mates(x, 2, NONE, 0);
    Check.due("lives(1)", x.lives(1), 1);
    LifeLinks y = Check.made("bpit:1700;dpit:1750;dpit:1751");
    mates(y, 1, 0, NONE);
    Check.due("lives(1)", y.lives(1), 1);
  }

  /** "so that their WORTH together is greatest": not each one's own, by the least there is. */
  private static void promise20TogetherGreatest() {
    LifeLinks x = Check.made("banna:1700;bhanna:1700;danna:1750;dannas:1750");
    Check.due("two(0, 2, 3)", x.two(0, 2, 3), 1200);
    Check.due("two(1, 3, 3)", x.two(1, 3, 3), 800);
    Check.due("two(0, 3, 3)", x.two(0, 3, 3), 1000);
    Check.due("two(1, 2, 3)", x.two(1, 2, 3), 1000);
    mates(x, 2, 3, 0, 1);
    x.bound(0, 601);
    mates(x, 3, 2, 1, 0);
    Check.due("lives(2)", x.lives(2), 2000);
    x.bound(0, 800);
    mates(x, 3, 2, 1, 0);
    x.bound(0, 801);
    mates(x, 2, NONE, 0, NONE);
    Check.due("lives(2)", x.lives(2), 1200);
  }

  private static LifeLinks sevenBySeven() {
    return Check.made(Edges.SEVEN_BIRTHS, Edges.SEVEN_BIRTHS.replace("ba:170", "da:176"));
  }

  /** "of each KIND seven at most": seven pairs, and those in another order. */
  private static void promise20SevenBySeven() {
    LifeLinks x = sevenBySeven();
    mates(x, 7, 8, 9, 10, 11, 12, 13, 0, 1, 2, 3, 4, 5, 6);
    for (int birth = 0; birth < 7; birth++) {
      for (int burial = 7; burial < 14; burial++) {
        if (birth + burial != 13) {
          x.part(birth, burial);
        }
      }
    }
    mates(x, 13, 12, 11, 10, 9, 8, 7, 6, 5, 4, 3, 2, 1, 0);
    Check.due("lives(1)", x.lives(1), 7);
    Check.due("lives(2)", x.lives(2), 8400);
    x.part(0, 13);
    mates(x, NONE, 12, 11, 10, 9, 8, 7, 6, 5, 4, 3, 2, 1, NONE);
  }

  /** "none in two of them": one BURIAL for seven. */
  private static void promise20SevenBirthsOneBurial() {
    LifeLinks x = Check.made(Edges.SEVEN_BIRTHS, "da:1760");
    mates(x, 7, NONE, NONE, NONE, NONE, NONE, NONE, 0);
    for (int birth = 0; birth < 6; birth++) {
      x.part(birth, 7);
    }
    mates(x, NONE, NONE, NONE, NONE, NONE, NONE, 7, 6);
  }

  /** "none in two of them": one BIRTH for seven. */
  private static void promise20SevenBurialsOneBirth() {
    LifeLinks x = Check.made(Edges.SEVEN_BIRTHS.replace("ba:170", "da:176"), "ba:1700");
    mates(x, 7, NONE, NONE, NONE, NONE, NONE, NONE, 0);
    for (int burial = 0; burial < 6; burial++) {
      x.part(burial, 7);
    }
    mates(x, NONE, NONE, NONE, NONE, NONE, NONE, 7, 6);
  }

  /** "MATCH: pairs of a BIRTH and a BURIAL": those that were struck out are in none. */
  private static void promise20FewerThanBefore() {
    LifeLinks x = sevenBySeven();
    Check.due("lives(2)", x.lives(2), 8400);
    for (int left = 6; left >= 0; left--) {
      x.strike(left);
      Check.due("lives(1) of " + left + " births", x.lives(1), left);
      Check.due("lives(2) of " + left + " births", x.lives(2), 1200 * left);
    }
    Check.enter(x, "ba:1700;ba:1701");
    Check.due("lives(1)", x.lives(1), 2);
    Check.due("lives(2)", x.lives(2), 2400);
    mates(x, 7, 8, NONE, NONE, NONE, NONE, NONE, 0, 1);
  }

  // ---- promise 20: of several

  /** "has the BURIAL of the lesser number". */
  private static void promise20LesserBurial() {
    LifeLinks x = Check.made("bpit:1700;dpit:1760;dpit:1750;dpit:1770");
    mates(x, 1, 0, NONE, NONE);
    x.part(0, 1);
    mates(x, 2, NONE, 0, NONE);
    x.part(0, 2);
    mates(x, 3, NONE, NONE, 0);
  }

  /** "(none counts as the greatest)". */
  private static void promise20NoneCountsAsTheGreatest() {
    LifeLinks x = Check.made("bpit:1700;bpit:1701;bpit:1702;dpit:1750;dpit:1751");
    mates(x, 3, 4, NONE, 0, 1);
    x.part(0, 3);
    mates(x, 4, 3, NONE, 1, 0);
    x.part(0, 4);
    mates(x, NONE, 3, 4, 1, 2);
  }

  /** "at the first BIRTH for which they are unlike": the BIRTHS ahead of it have the same. */
  private static void promise20FirstBirthForWhichTheyAreUnlike() {
    LifeLinks x = Check.made("botto:1700;bpit:1700;bpit:1701;dpit:1750;dpit:1751");
    Check.enter(x, "dotto:1750");
    mates(x, 5, 3, 4, 1, 2, 0);
    x.part(2, 4);
    mates(x, 5, 4, 3, 2, 1, 0);
    x.part(1, 4);
    mates(x, 5, 3, NONE, 1, NONE, 0);
  }

  /** "of several that which, at the first BIRTH ..": whether it has fewer pairs or more. */
  private static void promise20FewerPairsOfAsMuchWorth() {
    LifeLinks x = Check.made("bhhhhh:1700;bhhrrr:1700;dhhhhh:1760;dhhlll:1760");
    x.bound(0, 400);
    x.part(1, 3);
    Check.due("two(0, 2, 3)", x.two(0, 2, 3), 1200);
    Check.due("two(0, 3, 3)", x.two(0, 3, 3), 600);
    Check.due("two(1, 2, 3)", x.two(1, 2, 3), 600);
    mates(x, 2, NONE, 0, NONE);
    Check.due("lives(1)", x.lives(1), 1);
    Check.due("lives(2)", x.lives(2), 1200);
    LifeLinks y = Check.made("bhhhhh:1700;bhhrrr:1700;dhhlll:1760;dhhhhh:1760");
    y.bound(0, 400);
    y.part(1, 2);
    mates(y, 2, 3, 0, 1);
    Check.due("lives(1)", y.lives(1), 2);
    Check.due("lives(2)", y.lives(2), 1200);
  }

  /** "the BURIAL of the lesser number": BURIALS ahead of BIRTHS, and between them. */
  private static void promise20NumbersNotOrderOfKinds() {
    LifeLinks x = Check.made("dpit:1750;bpit:1700;dpit:1751;bpit:1701;wpit:1720");
    Check.due("mate(1)", x.mate(1), 0);
    Check.due("mate(3)", x.mate(3), 2);
    Check.due("mate(0)", x.mate(0), 1);
    Check.due("mate(2)", x.mate(2), 3);
    x.strike(0);
    Check.due("mate(0)", x.mate(0), 1);
    Check.due("mate(1)", x.mate(1), 0);
    Check.due("mate(2)", x.mate(2), NONE);
  }

  /** "of several that which ..": seven by seven, of which each is PARTED from the one it had. */
  private static void promise20SevenOfSeveral() {
    LifeLinks x = sevenBySeven();
    for (int birth = 0; birth < 7; birth++) {
      x.part(birth, birth + 7);
    }
    mates(x, 8, 7, 10, 9, 12, 13, 11);
    Check.due("lives(2)", x.lives(2), 8400);
    for (int birth = 0; birth < 7; birth++) {
      x.part(birth, birth + 7);
    }
    mates(x, 7, 8, 9, 10, 11, 12, 13);
  }
}
