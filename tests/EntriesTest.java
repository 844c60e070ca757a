/** Promises 6 to 12: entry, sign, as, strike, age, part, bound. */
public final class EntriesTest {
  private static final int NONE = LifeLinks.NONE;
  private static final int UNKNOWN = LifeLinks.UNKNOWN;
  private static final int OUTSIDE = LifeLinks.OUTSIDE;
  private static final int[] FAR = {-1, -2, 18, 19, Integer.MIN_VALUE, Integer.MAX_VALUE};

  public static void main(String[] args) {
    promise6Entry();
    promise6EntryBorn();
    promise6EntryLife();
    promise6EntryRefusals();
    promise7Sign();
    promise8As();
    promise9Strike();
    promise9StrikeFreesItsPlace();
    promise9StrikeAndParted();
    promise10Age();
    promise10AgeTells();
    promise11Part();
    promise11PartTells();
    promise11PartAndStrike();
    promise12Bound();
    promise12BoundTells();
    Check.end();
  }

  private static void told(LifeLinks x, int entry, int... wants) {
    for (int what = 0; what < wants.length; what++) {
      Check.due("entry(" + entry + ", " + what + ")", x.entry(entry, what), wants[what]);
    }
  }

  /**
   * "int entry(int entry, int what): Of an ENTRY: what = 0 KIND, 1 YEAR, 2 AGE (NONE), 3 how many
   * letters its NAME has".
   */
  private static void promise6Entry() {
    LifeLinks x = Check.made("banna:1700;wana:1722.21;dhanabel:1760;wotto:1800");
    told(x, 0, 0, 1700, NONE, 4, 1700, 1700, 0, 0);
    told(x, 1, 1, 1722, 21, 3, 1699, 1702, 0, 0);
    told(x, 2, 2, 1760, NONE, 7, 1660, 1760, 1, 0);
    told(x, 3, 1, 1800, NONE, 4, 1740, 1786, 2, 0);
  }

  /** "3 how many letters its NAME has, 4 the first year BORN, 5 the last one". */
  private static void promise6EntryBorn() {
    LifeLinks x = Check.made("da:1600.0;da:1899.99;wa:1600.99;wa:1899.14;ba:1600");
    told(x, 0, 2, 1600, 0, 1, 1598, 1601);
    told(x, 1, 2, 1899, 99, 1, 1798, 1801);
    told(x, 2, 1, 1600, 99, 1, 1499, 1502);
    told(x, 3, 1, 1899, 14, 1, 1883, 1886);
    x.bound(1, 5);
    told(x, 0, 2, 1600, 0, 1, 1594, 1605);
    told(x, 3, 1, 1899, 14, 1, 1879, 1890);
    told(x, 4, 0, 1600, NONE, 1, 1600, 1600);
    x.bound(1, 0);
    told(x, 0, 2, 1600, 0, 1, 1599, 1600);
    x.age(0, NONE);
    x.age(2, NONE);
    told(x, 0, 2, 1600, NONE, 1, 1500, 1600);
    told(x, 2, 1, 1600, NONE, 1, 1540, 1586);
  }

  /** "6 its LIFE (NONE: it is DOUBTFUL), 7 whether it is DOUBTFUL (1, 0)." */
  private static void promise6EntryLife() {
    LifeLinks x = Check.made("banna:1700;wanna:1720;banna:1701;danna:1770.70");
    Check.due("bound(2, 75)", x.bound(2, 75), 40);
    Check.due("a doubtful wedding's life", x.entry(1, 6), NONE);
    Check.due("whether it is doubtful", x.entry(1, 7), 1);
    Check.due("the second birth's life", x.entry(2, 6), 1);
    Check.due("the first birth's life", x.entry(0, 6), 0);
    Check.due("the burial's life", x.entry(3, 6), 0);
    Check.due("a birth is not doubtful", x.entry(0, 7), 0);
    Check.due("a burial is not doubtful", x.entry(3, 7), 0);
    x.part(1, 0);
    Check.due("the wedding's life", x.entry(1, 6), 1);
    Check.due("not doubtful any more", x.entry(1, 7), 0);
    x.part(1, 2);
    Check.due("a life of its own", x.entry(1, 6), 2);
    Check.due("not doubtful", x.entry(1, 7), 0);
  }

  /** "UNKNOWN: entry; OUTSIDE: what." */
  private static void promise6EntryRefusals() {
    LifeLinks x = Check.made("banna:1700;wana:1722.21");
    for (int far : FAR) {
      Check.due("entry(" + far + ", 0)", x.entry(far, 0), UNKNOWN);
      Check.due("entry(" + far + ", 9)", x.entry(far, 9), UNKNOWN);
      Check.due("entry(0, " + far + ")", x.entry(0, far), OUTSIDE);
    }
    Check.due("entry(2, 0)", x.entry(2, 0), UNKNOWN);
    Check.due("entry(2, 8)", x.entry(2, 8), UNKNOWN);
    Check.due("entry(1, 8)", x.entry(1, 8), OUTSIDE);
  }

  /**
   * "int sign(int entry, int place): The code of a letter of the NAME of an ENTRY. UNKNOWN: entry,
   * place (from 0)."
   */
  private static void promise7Sign() {
    LifeLinks x = Check.made("bz:1700;wabcdefgh:1722.21");
    Check.due("sign(0, 0)", x.sign(0, 0), 'z');
    Check.due("sign(0, 1)", x.sign(0, 1), UNKNOWN);
    for (int place = 0; place < 8; place++) {
      Check.due("sign(1, " + place + ")", x.sign(1, place), 'a' + place);
    }
    Check.due("sign(1, 8)", x.sign(1, 8), UNKNOWN);
    Check.due("sign(2, 0)", x.sign(2, 0), UNKNOWN);
    for (int far : FAR) {
      Check.due("sign(" + far + ", 0)", x.sign(far, 0), UNKNOWN);
      Check.due("sign(1, " + far + ")", x.sign(1, far), UNKNOWN);
    }
  }

  /**
   * "int as(int entry, int kind): An ENTRY taken as one of a KIND: its YEAR; NONE: it is none such
   * (a row of those does not take it). UNKNOWN: entry; OUTSIDE: kind (0 to 2)."
   */
  private static void promise8As() {
    LifeLinks x = Check.made("ba:1701;wb:1722.21;dc:1763");
    int[] years = {1701, 1722, 1763};
    for (int entry = 0; entry < 3; entry++) {
      for (int kind = 0; kind < 3; kind++) {
        int want = entry == kind ? years[entry] : NONE;
        Check.due("as(" + entry + ", " + kind + ")", x.as(entry, kind), want);
      }
      Check.due("as(" + entry + ", 3)", x.as(entry, 3), OUTSIDE);
      Check.due("as(" + entry + ", -1)", x.as(entry, -1), OUTSIDE);
    }
    for (int far : FAR) {
      Check.due("as(" + far + ", 0)", x.as(far, 0), UNKNOWN);
      Check.due("as(" + far + ", 3)", x.as(far, 3), UNKNOWN);
      Check.due("as(0, " + far + ")", x.as(0, far), OUTSIDE);
    }
    Check.due("as(3, 0)", x.as(3, 0), UNKNOWN);
  }

  /**
   * "int strike(int entry): An ENTRY is struck out; those behind it have a number less by 1 each:
   * how many are left. UNKNOWN: entry."
   */
  private static void promise9Strike() {
    LifeLinks x = Check.made("ba:1701;wb:1722.21;dc:1763;bd:1780");
    Check.due("strike(1)", x.strike(1), 3);
    told(x, 0, 0, 1701);
    told(x, 1, 2, 1763);
    told(x, 2, 0, 1780);
    Check.due("sign(1, 0)", x.sign(1, 0), 'c');
    Check.due("sign(2, 0)", x.sign(2, 0), 'd');
    Check.due("entry(3, 0)", x.entry(3, 0), UNKNOWN);
    Check.due("count(2)", x.count(2), 0);
    Check.due("count(6)", x.count(6), 1);
    for (int far : FAR) {
      Check.due("strike(" + far + ")", x.strike(far), UNKNOWN);
    }
    Check.due("strike(3)", x.strike(3), UNKNOWN);
    Check.due("count(6) behind refusals", x.count(6), 1);
    Check.due("strike(2)", x.strike(2), 2);
    Check.due("strike(0)", x.strike(0), 1);
    Check.due("sign(0, 0)", x.sign(0, 0), 'c');
    Check.due("strike(0)", x.strike(0), 0);
    Check.due("strike(0) of none", x.strike(0), UNKNOWN);
    Check.due("count(0)", x.count(0), 0);
    Check.due("count(6)", x.count(6), 4);
    Check.due("lives(0)", x.lives(0), 0);
  }

  /** "An ENTRY is struck out": one that comes later has nothing of it. */
  private static void promise9StrikeFreesItsPlace() {
    LifeLinks x = Check.made("banna:1701;wjohan:1722.21;danna:1763");
    Check.due("two(0, 2, 0)", x.two(0, 2, 0), 0);
    Check.due("strike(0)", x.strike(0), 2);
    Check.due("two(0, 1, 0)", x.two(0, 1, 0), 8);
    Check.enter(x, "bjo:1701");
    Check.due("two(0, 2, 0): johan, jo", x.two(0, 2, 0), 6);
    Check.due("two(1, 2, 0): anna, jo", x.two(1, 2, 0), 7);
    Check.due("two(2, 1, 0): jo, anna", x.two(2, 1, 0), 7);
    Check.due("sign(2, 1)", x.sign(2, 1), 'o');
    Check.due("sign(2, 2)", x.sign(2, 2), UNKNOWN);
  }

  /** "(Who is struck out is PARTED from nobody any more.)" */
  private static void promise9StrikeAndParted() {
    LifeLinks x = Check.made("banna:1701;wanna:1722;danna:1763;danna:1764");
    Check.due("part(0, 1)", x.part(0, 1), 1);
    Check.due("part(1, 3)", x.part(1, 3), 1);
    Check.due("part(2, 0)", x.part(2, 0), 1);
    Check.due("count(7)", x.count(7), 3);
    Check.due("strike(0)", x.strike(0), 3);
    Check.due("count(7)", x.count(7), 1);
    Check.due("the parted ones have other numbers", x.two(0, 2, 2), 3);
    Check.due("two(0, 1, 2)", x.two(0, 1, 2), 0);
    Check.enter(x, "banna:1701");
    Check.due("who comes is parted from nobody", x.two(3, 0, 2), 0);
    Check.due("who comes is parted from nobody", x.two(3, 1, 2), 0);
    Check.due("count(7)", x.count(7), 1);
    Check.due("strike(2)", x.strike(2), 3);
    Check.due("count(7)", x.count(7), 0);
  }

  /**
   * "int age(int entry, int age): An ENTRY has another AGE (NONE: none): which it had. UNKNOWN:
   * entry; OUTSIDE: age (as for its KIND; a BIRTH NONE alone)."
   */
  private static void promise10Age() {
    LifeLinks x = Check.made("ba:1701;wb:1722.21;dc:1763");
    Check.due("age(0, NONE)", x.age(0, NONE), NONE);
    int[] noAge = {-2, 0, 14, 50, 99, 100, Integer.MIN_VALUE, Integer.MAX_VALUE};
    for (int age : noAge) {
      Check.due("age(0, " + age + ")", x.age(0, age), OUTSIDE);
    }
    Check.due("age(1, 13)", x.age(1, 13), OUTSIDE);
    Check.due("age(1, 0)", x.age(1, 0), OUTSIDE);
    Check.due("age(1, 100)", x.age(1, 100), OUTSIDE);
    Check.due("age(1, -2)", x.age(1, -2), OUTSIDE);
    Check.due("entry(1, 2) behind refusals", x.entry(1, 2), 21);
    Check.due("age(1, 14)", x.age(1, 14), 21);
    Check.due("age(1, 99)", x.age(1, 99), 14);
    Check.due("age(1, NONE)", x.age(1, NONE), 99);
    Check.due("age(1, 20)", x.age(1, 20), NONE);
    Check.due("age(2, 100)", x.age(2, 100), OUTSIDE);
    Check.due("age(2, -2)", x.age(2, -2), OUTSIDE);
    Check.due("age(2, 0)", x.age(2, 0), NONE);
    Check.due("age(2, 99)", x.age(2, 99), 0);
    Check.due("age(2, NONE)", x.age(2, NONE), 99);
    Check.due("entry(2, 2)", x.entry(2, 2), NONE);
    for (int far : FAR) {
      Check.due("age(" + far + ", 20)", x.age(far, 20), UNKNOWN);
      Check.due("age(" + far + ", 100)", x.age(far, 100), UNKNOWN);
    }
    Check.due("age(3, NONE)", x.age(3, NONE), UNKNOWN);
  }

  /** "An ENTRY has another AGE": BORN, and all that follows, is of that one. */
  private static void promise10AgeTells() {
    LifeLinks x = Check.made("banna:1700;danna:1760");
    Check.due("mate(0)", x.mate(0), 1);
    Check.due("age(1, 50)", x.age(1, 50), NONE);
    Check.due("entry(1, 4)", x.entry(1, 4), 1708);
    Check.due("entry(1, 5)", x.entry(1, 5), 1711);
    Check.due("mate(0) behind age", x.mate(0), NONE);
    Check.due("age(1, 60)", x.age(1, 60), 50);
    Check.due("mate(0) behind age", x.mate(0), 1);
  }

  /**
   * "int part(int one, int other): Two ENTRIES are PARTED, or, if they are, not any more: 1, 0.
   * UNKNOWN: one, other (two unlike ENTRIES)."
   */
  private static void promise11Part() {
    LifeLinks x = Check.made("banna:1700;danna:1760;wanna:1730");
    Check.due("part(0, 1)", x.part(0, 1), 1);
    Check.due("count(7)", x.count(7), 1);
    Check.due("part(0, 2)", x.part(0, 2), 1);
    Check.due("count(7)", x.count(7), 2);
    Check.due("part(1, 0)", x.part(1, 0), 0);
    Check.due("count(7)", x.count(7), 1);
    Check.due("part(1, 0)", x.part(1, 0), 1);
    Check.due("part(0, 1)", x.part(0, 1), 0);
    for (int far : FAR) {
      Check.due("part(0, " + far + ")", x.part(0, far), UNKNOWN);
      Check.due("part(" + far + ", 0)", x.part(far, 0), UNKNOWN);
      Check.due("part of far ones", x.part(far, far), UNKNOWN);
    }
    Check.due("part(0, 3)", x.part(0, 3), UNKNOWN);
    Check.due("part(3, 0)", x.part(3, 0), UNKNOWN);
    Check.due("part(1, 1)", x.part(1, 1), UNKNOWN);
    Check.due("count(7) behind refusals", x.count(7), 1);
  }

  /** "Two ENTRIES are PARTED, or, if they are, not any more": they do not FIT, and do again. */
  private static void promise11PartTells() {
    LifeLinks x = Check.made("banna:1700;danna:1760;bober:1760");
    Check.due("fits(0)", x.fits(0), 1);
    Check.due("part(1, 0)", x.part(1, 0), 1);
    Check.due("two(0, 1, 2)", x.two(0, 1, 2), 3);
    Check.due("two(1, 0, 2)", x.two(1, 0, 2), 3);
    Check.due("fits(0)", x.fits(0), 0);
    Check.due("mate(0)", x.mate(0), NONE);
    Check.due("part(0, 2) of two births", x.part(0, 2), 1);
    Check.due("two(0, 2, 2)", x.two(0, 2, 2), 1);
    Check.due("part(0, 1)", x.part(0, 1), 0);
    Check.due("mate(0)", x.mate(0), 1);
  }

  /** "(Who is struck out is PARTED from nobody any more.)": the others stay PARTED. */
  private static void promise11PartAndStrike() {
    LifeLinks x = Check.made("banna:1700;danna:1760;wanna:1730;wanna:1731");
    Check.due("part(0, 2)", x.part(0, 2), 1);
    Check.due("part(1, 2)", x.part(1, 2), 1);
    Check.due("part(0, 3)", x.part(0, 3), 1);
    Check.due("strike(2)", x.strike(2), 3);
    Check.due("count(7)", x.count(7), 1);
    Check.due("two(0, 2, 2)", x.two(0, 2, 2), 3);
    Check.enter(x, "wanna:1730");
    Check.due("part(0, 3): it was PARTED from nobody", x.part(0, 3), 1);
    Check.due("part(3, 1): it was PARTED from nobody", x.part(3, 1), 1);
    Check.due("part(2, 0): these two were", x.part(2, 0), 0);
    Check.due("count(7)", x.count(7), 2);
  }

  /**
   * "int bound(int what, int v): A bound is another one: what = 0 LEAST (0 to 1000), 1 SLACK (0 to
   * 5), 2 DOUBT (0 to 500): which it was. OUTSIDE: what, v."
   */
  private static void promise12Bound() {
    LifeLinks x = new LifeLinks();
    int[] first = {600, 1, 40};
    int[] most = {1000, 5, 500};
    for (int what = 0; what < 3; what++) {
      String call = "bound(" + what + ", ..)";
      Check.due(call + " below", x.bound(what, -1), OUTSIDE);
      Check.due(call + " above", x.bound(what, most[what] + 1), OUTSIDE);
      Check.due(call + " far below", x.bound(what, Integer.MIN_VALUE), OUTSIDE);
      Check.due(call + " far above", x.bound(what, Integer.MAX_VALUE), OUTSIDE);
      Check.due(call + " most", x.bound(what, most[what]), first[what]);
      Check.due(call + " 0", x.bound(what, 0), most[what]);
      Check.due(call + " 1", x.bound(what, 1), 0);
      Check.due(call + " 1 again", x.bound(what, 1), 1);
    }
    for (int far : FAR) {
      Check.due("bound(" + far + ", 0)", x.bound(far, 0), OUTSIDE);
    }
    Check.due("bound(3, 0)", x.bound(3, 0), OUTSIDE);
  }

  /** "A bound is another one": LEAST is of LIKENESS, SLACK of BORN, DOUBT of WORTH. */
  private static void promise12BoundTells() {
    LifeLinks x = Check.made("bpit:1700;dbit:1750.52;wpit:1720.22");
    Check.due("LEAST 600", x.two(0, 2, 2), 5);
    x.bound(1, 2);
    Check.due("SLACK 2: two(0, 2, 2)", x.two(0, 2, 2), 0);
    Check.due("SLACK 2: two(0, 2, 4)", x.two(0, 2, 4), 1);
    Check.due("SLACK 2: two(0, 1, 2)", x.two(0, 1, 2), 0);
    x.bound(0, 834);
    Check.due("LEAST 834: two(0, 1, 2)", x.two(0, 1, 2), 0);
    x.bound(0, 835);
    Check.due("LEAST 835: two(0, 1, 2)", x.two(0, 1, 2), 6);
    x.bound(0, 1000);
    Check.due("LEAST 1000: two(0, 2, 2)", x.two(0, 2, 2), 0);
    LifeLinks y = Check.made("bpit:1700;bbit:1701;wpit:1720");
    y.bound(2, 165);
    Check.due("DOUBT 165", y.entry(2, 6), 0);
    y.bound(2, 166);
    Check.due("DOUBT 166", y.entry(2, 6), NONE);
  }
}
