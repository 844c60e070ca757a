import java.util.ArrayList;
import java.util.Arrays;
import java.util.Comparator;
import java.util.HashMap;
import java.util.List;
import java.util.Map;
import java.util.PriorityQueue;

/** "What it is" and "Terms", sentence by sentence, each with its words ahead of the test. */
public final class TermsTest {
  private static final int NONE = LifeLinks.NONE;
  private static final int LONGEST_NAME = 8;
  private static final String GROUPS = "b p; c k q; d t; f v w; g j; i y; m n; s x z; a e o u";

  public static void main(String[] args) {
    registersJoinedToLives();
    howLikeNamesAre();
    whenOneCanHaveBeenBorn();
    whichTwoFit();
    birthsAndBurialsMatched();
    weddingsLaidOrLeftInDoubt();
    partedByHandAndStruckOut();
    booksAsTexts();
    numbersAsTheyCame();
    kinds();
    nameYearAndAge();
    entriesAsAText();
    groupsOfLetters();
    distanceIsTheLeastOfAll();
    likenessOfEachDistance();
    bornOfEachKind();
    fitAndWhy();
    worthOfEachNumberOfYears();
    matchOfTwoPairs();
    livesAreNumbered();
    eachWeddingInOrder();
    worthOfAWeddingAtALife();
    greatestWorthAndDoubt();
    shaky();
    refusals();
    Check.end();
  }

  private static void entry(LifeLinks x, int entry, int... wants) {
    for (int what = 0; what < wants.length; what++) {
      Check.due("entry(" + entry + ", " + what + ")", x.entry(entry, what), wants[what]);
    }
  }

  private static void two(LifeLinks x, int one, int other, int... wants) {
    for (int what = 0; what < wants.length; what++) {
      String call = "two(" + one + ", " + other + ", " + what + ")";
      Check.due(call, x.two(one, other, what), wants[what]);
    }
  }

  private static void life(LifeLinks x, int life, int... wants) {
    for (int what = 0; what < wants.length; what++) {
      Check.due("life(" + life + ", " + what + ")", x.life(life, what), wants[what]);
    }
  }

  // ---- What it is

  /** "Registers joined to lives: births, weddings and burials with names, years and ages". */
  private static void registersJoinedToLives() {
    LifeLinks x = Check.made("banna:1700;wanna:1722.21;danna:1760.59");
    entry(x, 0, 0, 1700, NONE, 4, 1700, 1700, 0, 0);
    entry(x, 1, 1, 1722, 21, 4, 1699, 1702, 0, 0);
    entry(x, 2, 2, 1760, 59, 4, 1699, 1702, 0, 0);
    life(x, 0, 0, 2, 1, 1700, 1700, 0, 3, 1760);
  }

  /**
   * "how like names are by what it costs to change one into the other, letters that sound alike at
   * half".
   */
  private static void howLikeNamesAre() {
    LifeLinks x = Check.made("bpit:1700;wpat:1720;wpyt:1720;wpitt:1720");
    Check.due("another letter", x.two(0, 1, 0), 2);
    Check.due("one that sounds alike", x.two(0, 2, 0), 1);
    Check.due("one more", x.two(0, 3, 0), 2);
    Check.holds("what costs less is more like", x.two(0, 2, 1) > x.two(0, 1, 1));
  }

  /** "when one can have been born". */
  private static void whenOneCanHaveBeenBorn() {
    LifeLinks x = Check.made("wanna:1722.21");
    Check.due("the first year", x.entry(0, 4), 1722 - 21 - 1 - 1);
    Check.due("the last one", x.entry(0, 5), 1722 - 21 + 1);
  }

  /** "which two fit, and if they do not, why". */
  private static void whichTwoFit() {
    LifeLinks x = Check.made("banna:1700;wanna:1722;wotto:1722;wanna:1690");
    Check.due("they fit", x.two(0, 1, 2), 0);
    Check.due("unlike names", x.two(0, 2, 2), 6);
    Check.due("ahead of the birth", x.two(0, 3, 2), 4);
    Check.due("how many fit", x.fits(0), 1);
  }

  /** "births and burials matched so that all together are worth most". */
  private static void birthsAndBurialsMatched() {
    LifeLinks x = Check.made("banna:1700;bhanna:1700;dhannas:1750;danna:1750");
    Check.due("mate(0)", x.mate(0), 3);
    Check.due("mate(1)", x.mate(1), 2);
    Check.due("all together", x.lives(2), x.two(0, 3, 3) + x.two(1, 2, 3));
    Check.holds("more than the others", x.lives(2) > x.two(0, 2, 3) + x.two(1, 3, 3));
  }

  /** "weddings laid to lives, or left in doubt, where two are near". */
  private static void weddingsLaidOrLeftInDoubt() {
    LifeLinks x = Check.made("banna:1700;bbert:1700;wanna:1722;wbert:1722");
    Check.due("laid to the first life", x.entry(2, 6), 0);
    Check.due("laid to the second one", x.entry(3, 6), 1);
    Check.enter(x, "bana:1701;banna:1701");
    Check.due("in doubt", x.entry(2, 7), 1);
    Check.due("not in doubt", x.entry(3, 7), 0);
  }

  /** "entries that are parted by hand, struck out". */
  private static void partedByHandAndStruckOut() {
    LifeLinks x = Check.made("banna:1700;danna:1760");
    Check.due("lives(0)", x.lives(0), 1);
    Check.due("part(0, 1)", x.part(0, 1), 1);
    Check.due("lives(0), parted", x.lives(0), 2);
    Check.due("strike(1)", x.strike(1), 1);
    Check.due("lives(0), struck out", x.lives(0), 1);
  }

  /** "books as texts". */
  private static void booksAsTexts() {
    LifeLinks x = new LifeLinks();
    String book = "banna:1700;danna:1760";
    for (char sign : book.toCharArray()) {
      x.letter(sign);
    }
    Check.due("enter()", x.enter(), 2);
  }

  /** "ENTRIES have numbers from 0 as they came (18 at most, of each KIND seven at most)". */
  private static void numbersAsTheyCame() {
    LifeLinks x = Check.made("danna:1760;banna:1700", "wanna:1722", "banne:1701");
    int[] years = {1760, 1700, 1722, 1701};
    for (int entry = 0; entry < years.length; entry++) {
      Check.due("entry(" + entry + ", 1)", x.entry(entry, 1), years[entry]);
    }
    Check.due("none has the next number", x.entry(4, 1), LifeLinks.UNKNOWN);
    LifeLinks full = Edges.fullest();
    Check.due("18 of them", full.count(0), 18);
    Check.due("seven BIRTHS", full.count(1), 7);
    Check.due("seven WEDDINGS", full.count(2), 7);
    Check.type(full, "dabc:1760");
    Check.due("the 19th", full.enter(), LifeLinks.FULL);
  }

  // ---- Terms: KINDS, and ENTRIES as a text

  /** "KINDS: 0 BIRTH, 1 WEDDING, 2 BURIAL." */
  private static void kinds() {
    String[] texts = {"banna:1700", "wanna:1700", "danna:1700"};
    for (int kind = 0; kind < texts.length; kind++) {
      LifeLinks x = Check.made(texts[kind]);
      Check.due("KIND of " + texts[kind], x.entry(0, 0), kind);
      for (int asked = 0; asked < texts.length; asked++) {
        Check.due("as(0, " + asked + ")", x.as(0, asked), asked == kind ? 1700 : NONE);
        Check.due("count(" + (asked + 1) + ")", x.count(asked + 1), asked == kind ? 1 : 0);
      }
    }
  }

  /**
   * "Each has a NAME (1 to 8 letters "a" to "z"), a YEAR (1600 to 1899), and can have an AGE (a
   * WEDDING 14 to 99, a BURIAL 0 to 99, a BIRTH none)."
   */
  private static void nameYearAndAge() {
    LifeLinks x = Check.made("bz:1600;wabcdefgh:1899;wa:1700.14;wa:1700.99;da:1700.0");
    Check.enter(x, "da:1700.99;da:1899");
    int[][] wants = {{0, 1600, NONE, 1}, {1, 1899, NONE, 8}, {1, 1700, 14, 1}, {1, 1700, 99, 1},
        {2, 1700, 0, 1}, {2, 1700, 99, 1}, {2, 1899, NONE, 1}};
    for (int entry = 0; entry < wants.length; entry++) {
      entry(x, entry, wants[entry]);
    }
    String[] none = {"b:1600", "babcdefghi:1600", "ba:1599", "ba:1900", "wa:1700.13", "wa:1700.100",
        "da:1700.100", "ba:1700.0"};
    for (String text : none) {
      LifeLinks y = new LifeLinks();
      Check.type(y, text);
      Check.holds("fault() of " + text, y.fault() < text.length());
      Check.due("enter() of " + text, y.enter(), LifeLinks.STATE);
    }
  }

  /**
   * "ENTRIES as a text, one at least: "b", "w" or "d" for the KIND, the NAME, ":", the four figures
   * of the YEAR, and, if it has an AGE, "." and that (without a 0 ahead); ENTRIES with ";" between."
   */
  private static void entriesAsAText() {
    String text = "bbwd:1700;wdbw:1720.20;dwdb:1760;dd:1761.9";
    LifeLinks x = Check.made(text);
    entry(x, 0, 0, 1700, NONE, 3);
    entry(x, 1, 1, 1720, 20, 3);
    entry(x, 2, 2, 1760, NONE, 3);
    entry(x, 3, 2, 1761, 9, 1);
    StringBuilder names = new StringBuilder();
    for (int entry = 0; entry < 4; entry++) {
      for (int place = 0; place < x.entry(entry, 3); place++) {
        names.append((char) x.sign(entry, place));
      }
    }
    Check.holds("the names " + names, names.toString().equals("bwddbwwdbd"));
    String[] none = {"", ";", "anna:1700", "xanna:1700", "banna1700", "banna:170", "banna:17000",
        "wanna:1720.", "wanna:1720:20", "danna:1761.09", "banna:1700,danna:1760",
        "banna:1700;", ";banna:1700", "banna:1700;;danna:1760", "Banna:1700", "bAnna:1700"};
    for (String wrong : none) {
      LifeLinks y = new LifeLinks();
      Check.type(y, wrong);
      Check.due("enter() of " + wrong, y.enter(), LifeLinks.STATE);
    }
  }

  // ---- Terms: DISTANCE and LIKENESS

  private static boolean soundAlike(char one, char other) {
    for (String group : GROUPS.split("; ")) {
      if (group.indexOf(one) >= 0 && group.indexOf(other) >= 0) {
        return true;
      }
    }
    return false;
  }

  /**
   * "GROUPS of letters: b p; c k q; d t; f v w; g j; i y; m n; s x z; a e o u; others alone": each
   * letter and each other one, alone, at the end of a NAME and at its beginning.
   */
  private static void groupsOfLetters() {
    for (char one = 'a'; one <= 'z'; one++) {
      for (char other = 'a'; other <= 'z'; other++) {
        int want = one == other ? 0 : soundAlike(one, other) ? 1 : 2;
        String both = one + ", " + other;
        LifeLinks x = Check.made("w" + one + ":1720;w" + other + ":1720;wabcdefg" + one + ":1720");
        Check.enter(x, "wabcdefg" + other + ":1720;w" + one + "xyx:1720;w" + other + "xyx:1720");
        Check.due("DISTANCE of " + both, x.two(0, 1, 0), want);
        Check.due("at the end: " + both, x.two(2, 3, 0), want);
        Check.due("at the beginning: " + both, x.two(4, 5, 0), want);
      }
    }
  }

  private static int costOfMaking(char one, char other) {
    return soundAlike(one, other) ? 1 : 2;
  }

  /** Each NAME that one change makes of a NAME, with what it COSTS. */
  private static Map<String, Integer> changed(String name, String letters) {
    Map<String, Integer> all = new HashMap<>();
    for (int place = 0; place <= name.length(); place++) {
      String ahead = name.substring(0, place);
      String behind = name.substring(place);
      for (char letter : letters.toCharArray()) {
        if (name.length() < LONGEST_NAME) {
          all.merge(ahead + letter + behind, 2, Math::min);
        }
        if (!behind.isEmpty() && behind.charAt(0) != letter) {
          int cost = costOfMaking(behind.charAt(0), letter);
          all.merge(ahead + letter + behind.substring(1), cost, Math::min);
        }
      }
      if (!behind.isEmpty()) {
        all.merge(ahead + behind.substring(1), 2, Math::min);
      }
    }
    return all;
  }

  /** The least that any row of changes costs, from a NAME to each other one that is reached. */
  private static Map<String, Integer> leastCosts(String from, String letters, int longest) {
    Map<String, Integer> least = new HashMap<>();
    PriorityQueue<Map.Entry<String, Integer>> next =
        new PriorityQueue<>(Comparator.comparing(Map.Entry<String, Integer>::getValue));
    next.add(Map.entry(from, 0));
    while (!next.isEmpty()) {
      Map.Entry<String, Integer> at = next.poll();
      if (least.containsKey(at.getKey())) {
        continue;
      }
      least.put(at.getKey(), at.getValue());
      for (Map.Entry<String, Integer> made : changed(at.getKey(), letters).entrySet()) {
        if (made.getKey().length() <= longest && !least.containsKey(made.getKey())) {
          next.add(Map.entry(made.getKey(), at.getValue() + made.getValue()));
        }
      }
    }
    return least;
  }

  /**
   * "To change a NAME into another one: a letter left out, or put in, COSTS 2, one made another one
   * COSTS 1 within a GROUP, else 2. DISTANCE of two NAMES: the least of what all together COSTS":
   * of all rows of changes there are, one at a time, also those by way of longer NAMES.
   */
  private static void distanceIsTheLeastOfAll() {
    String[] names = {"b", "p", "h", "bp", "pb", "bh", "hb", "hh", "bph", "pbh", "hbp", "bbh",
        "php", "hpb", "bphb", "hbhp", "pbbp", "hphb", "bhbh", "bhbp"};
    for (String from : names) {
      Map<String, Integer> least = leastCosts(from, "bph", 5);
      for (String to : names) {
        LifeLinks x = Check.made("w" + from + ":1720;w" + to + ":1720");
        Check.due("DISTANCE of " + from + ", " + to, x.two(0, 1, 0), least.get(to));
      }
    }
  }

  private static String repeated(char letter, int times) {
    char[] signs = new char[times];
    Arrays.fill(signs, letter);
    return new String(signs);
  }

  /**
   * "LIKENESS: 1000 - 1000 * DISTANCE / (2 * letters of the longer NAME), as ints": each DISTANCE
   * that two NAMES of as many letters can have.
   */
  private static void likenessOfEachDistance() {
    for (int letters = 1; letters <= LONGEST_NAME; letters++) {
      for (int distance = 0; distance <= 2 * letters; distance++) {
        int other = distance / 2;
        int alike = distance % 2;
        String one = repeated('b', letters);
        String made = repeated('h', other) + repeated('p', alike)
            + repeated('b', letters - other - alike);
        LifeLinks x = Check.made("w" + one + ":1720;w" + made + ":1720");
        Check.due("DISTANCE of " + one + ", " + made, x.two(0, 1, 0), distance);
        // As ints: what is taken off is cut off, so that what stays is rounded up.
        int want = (int) Math.ceil(1000 - 1000.0 * distance / (2 * letters) - 1e-9);
        Check.due("LIKENESS of " + one + ", " + made, x.two(0, 1, 1), want);
      }
    }
  }

  // ---- Terms: BORN, FIT, WORTH

  /**
   * "BORN of an ENTRY, a first and a last year: of a BIRTH its YEAR; with an AGE, from YEAR - AGE - 1
   * - SLACK to YEAR - AGE + SLACK (SLACK 0 to 5, 1 at first); else of a WEDDING YEAR less 60 to YEAR
   * less 14, of a BURIAL YEAR less 100 to YEAR."
   */
  private static void bornOfEachKind() {
    LifeLinks x = Check.made("ba:1750;wa:1750;da:1750;wa:1750.30;da:1750.30");
    int[][] born = {{1750, 1750}, {1690, 1736}, {1650, 1750}, {1718, 1721}, {1718, 1721}};
    for (int entry = 0; entry < born.length; entry++) {
      Check.due("first year of " + entry, x.entry(entry, 4), born[entry][0]);
      Check.due("last year of " + entry, x.entry(entry, 5), born[entry][1]);
    }
    for (int slack = 0; slack <= 5; slack++) {
      x.bound(1, slack);
      for (int entry = 0; entry < born.length; entry++) {
        int more = entry < 3 ? 0 : slack - 1;
        Check.due("first year, SLACK " + slack, x.entry(entry, 4), born[entry][0] - more);
        Check.due("last year, SLACK " + slack, x.entry(entry, 5), born[entry][1] + more);
      }
    }
  }

  /**
   * "Two ENTRIES FIT, if there is no WHY of 1 to 6, the first one of these that holds: 1 both are
   * BIRTHS; 2 both are BURIALS; 3 they are PARTED; 4 one that is a BIRTH has a later YEAR than the
   * other one, or one that is a BURIAL an earlier one; 5 no year is BORN of both; 6 their LIKENESS
   * is less than LEAST (0 to 1000, 600 at first)."
   */
  private static void fitAndWhy() {
    LifeLinks x = Check.made("banna:1700;banna:1700;danna:1760;danna:1760;wanna:1720");
    Check.enter(x, "wanna:1699;wanna:1761;wanna:1721.30;wotto:1720");
    x.part(0, 4);
    int[][] whys = {{0, 1, 1}, {2, 3, 2}, {0, 4, 3}, {0, 5, 4}, {2, 6, 4}, {0, 7, 5}, {0, 8, 6},
        {1, 4, 0}, {0, 2, 0}, {4, 7, 0}};
    for (int[] why : whys) {
      two(x, why[0], why[1], x.two(why[1], why[0], 0), x.two(why[1], why[0], 1), why[2]);
      Check.due("WHY the other way", x.two(why[1], why[0], 2), why[2]);
      Check.holds("WORTH if they FIT alone", (x.two(why[0], why[1], 3) != NONE) == (why[2] == 0));
    }
  }

  /** "WORTH of two that FIT: LIKENESS + 200 / (how many years are BORN of both), as ints." */
  private static void worthOfEachNumberOfYears() {
    for (int years = 1; years <= 47; years++) {
      LifeLinks x = Check.made("wanna:1700;wanna:" + (1747 - years) + ";wana:" + (1747 - years));
      two(x, 0, 1, 0, 1000, 0, 1000 + 200 / years, years);
      two(x, 0, 2, 2, 750, 0, 750 + 200 / years, years);
    }
  }

  // ---- Terms: MATCH and LIVES

  /**
   * "MATCH: pairs of a BIRTH and a BURIAL that FIT, none in two of them, so that their WORTH together
   * is greatest; of several that which, at the first BIRTH for which they are unlike, has the BURIAL
   * of the lesser number (none counts as the greatest)."
   */
  private static void matchOfTwoPairs() {
    LifeLinks x = Check.made("danna:1760;banna:1700;banna:1701;danna:1761;bana:1700");
    int[] mates = {1, 0, 3, 2, NONE};
    for (int entry = 0; entry < mates.length; entry++) {
      Check.due("mate(" + entry + ")", x.mate(entry), mates[entry]);
    }
    Check.due("pairs", x.lives(1), 2);
    Check.due("WORTH together", x.lives(2), 2400);
  }

  /**
   * "LIVES are numbered from 0: one for each BIRTH, in order, with the BURIAL that it has by MATCH;
   * then one for each BURIAL that is in no pair, in order."
   */
  private static void livesAreNumbered() {
    LifeLinks x = Check.made("dulf:1750;botto:1710;danna:1760;banna:1700;dkurt:1749");
    Check.due("lives(0)", x.lives(0), 4);
    int[][] wants = {{1, NONE}, {3, 2}, {NONE, 0}, {NONE, 4}};
    for (int life = 0; life < wants.length; life++) {
      life(x, life, wants[life]);
    }
    Check.due("life(4, 0)", x.life(4, 0), LifeLinks.UNKNOWN);
  }

  /**
   * "Then each WEDDING, in order: it can go to a LIFE, if it FITS all ENTRIES that this has by now,
   * and there are fewer than three WEDDINGS": of five that FIT the BIRTH three go there.
   */
  private static void eachWeddingInOrder() {
    LifeLinks x = Check.made("wanna:1720;wanna:1721;wanna:1722;wanna:1723;banna:1700");
    x.part(0, 1);
    // 0 goes to the BIRTH; 1 does not FIT 0; 2 and 3 go to the BIRTH, where it is worth more.
    int[] lives = {0, 1, 0, 0, 0};
    for (int entry = 0; entry < lives.length; entry++) {
      Check.due("entry(" + entry + ", 6)", x.entry(entry, 6), lives[entry]);
    }
    Check.enter(x, "wanna:1724");
    Check.due("the fourth for the BIRTH", x.entry(5, 6), 1);
  }

  /**
   * "its WORTH there is the WORTH of it and the BIRTH, of it and the BURIAL of the LIFE (those that
   * it has; if it has neither, of it and each WEDDING there), together, divided by how many these
   * are, rounded down."
   */
  private static void worthOfAWeddingAtALife() {
    LifeLinks x = Check.made("banna:1700;danna:1760;bana:1700;danne:1650;wannas:1720");
    Check.due("of both", x.worth(4, 0), (1000 + 804) / 2);
    Check.due("of the BIRTH alone", x.worth(4, 1), 800);
    Check.due("of the BURIAL alone, which is earlier", x.worth(4, 2), NONE);
    LifeLinks burial = Check.made("danna:1760;wana:1720;wanna:1721");
    Check.due("of the BURIAL, not of the WEDDING there", burial.worth(2, 0), 1000 + 200 / 47);
    LifeLinks weddings = Check.made("wanna:1720.20;wana:1720.20;wanne:1721.21;wanna:1722.22");
    weddings.part(0, 1);
    // With the first and the third it is worth 1050 and 925, so 987 of both; 800 with the second.
    weddings.bound(2, 186);
    Check.due("of each WEDDING", weddings.entry(3, 6), 0);
    weddings.bound(2, 187);
    Check.due("of each WEDDING, by 187", weddings.entry(3, 7), 1);
  }

  /**
   * "It goes to the LIFE of greatest WORTH (of several the least number); but if for another one to
   * which it can go that greatest WORTH less its own is DOUBT or less (0 to 500, 40 at first), it is
   * DOUBTFUL, and goes to none; if it can go to none, it has a LIFE of its own, behind all others."
   */
  private static void greatestWorthAndDoubt() {
    LifeLinks x = Check.made("banne:1700;banna:1700;wanna:1720;wulf:1720");
    life(x, 0, 0, NONE, 0);
    life(x, 1, 1, NONE, 1);
    life(x, 2, NONE, NONE, 1, 1660, 1706, 0, 1, 1720);
    Check.due("of 1200 and 1075 the first", x.entry(2, 6), 1);
    Check.due("a LIFE of its own", x.entry(3, 6), 2);
    x.bound(2, 125);
    Check.due("DOUBTFUL", x.entry(2, 7), 1);
    Check.due("it goes to none", x.entry(2, 6), NONE);
    life(x, 1, 1, NONE, 0);
    Check.due("lives(0)", x.lives(0), 3);
  }

  /**
   * "A LIFE is SHAKY, if it has a BIRTH and a BURIAL, and another BURIAL FITS that BIRTH, or another
   * BIRTH that BURIAL, so that the WORTH of the two that the LIFE has less that one is DOUBT or
   * less."
   */
  private static void shaky() {
    LifeLinks x = Check.made("banna:1700;danna:1760;danne:1761");
    Check.due("1200 less 1075", x.life(0, 5), 0);
    x.bound(2, 125);
    Check.due("is DOUBT", x.life(0, 5), 1);
    Check.due("lives(4)", x.lives(4), 1);
    LifeLinks y = Check.made("banna:1700;danna:1760;banne:1700");
    Check.due("1200 less 1075", y.life(0, 5), 0);
    y.bound(2, 125);
    Check.due("is DOUBT", y.life(0, 5), 1);
    Check.due("it has no BURIAL", y.life(1, 5), 0);
  }

  /**
   * "Refusals, of several the first as told by each call: UNKNOWN (a number names nothing), OUTSIDE
   * (it is not as told), STATE (as told), FULL; they change nothing."
   */
  private static void refusals() {
    LifeLinks x = Edges.fullest();
    long before = x.digest();
    List<OneCall> calls = new ArrayList<>();
    List<Integer> wants = new ArrayList<>();
    String[] unknownAlone = {"strike", "fits", "nearest", "mate"};
    for (String name : unknownAlone) {
      calls.add(new OneCall(name, 18));
      wants.add(LifeLinks.UNKNOWN);
    }
    String[] unknownFirst = {"entry", "sign", "as", "age", "part", "life", "wedding", "worth"};
    for (String name : unknownFirst) {
      calls.add(new OneCall(name, 18, 1000));
      wants.add(LifeLinks.UNKNOWN);
    }
    calls.add(new OneCall("two", 0, 0, 5));
    wants.add(LifeLinks.UNKNOWN);
    String[] outside = {"entry", "as", "age", "life"};
    for (String name : outside) {
      calls.add(new OneCall(name, 0, 1000));
      wants.add(LifeLinks.OUTSIDE);
    }
    calls.add(new OneCall("two", 0, 1, 5));
    calls.add(new OneCall("bound", 3, 0));
    calls.add(new OneCall("bound", 0, 1001));
    calls.add(new OneCall("lives", 6));
    calls.add(new OneCall("count", 8));
    calls.add(new OneCall("letter", 127));
    for (int k = 0; k < 6; k++) {
      wants.add(LifeLinks.OUTSIDE);
    }
    calls.add(new OneCall("enter"));
    wants.add(LifeLinks.STATE);
    for (int k = 0; k < calls.size(); k++) {
      Check.due(calls.get(k).toString(), calls.get(k).of(x), wants.get(k));
      Check.due("digest() behind " + calls.get(k), x.digest(), before);
    }
    Check.type(x, "dabc:1760");
    before = x.digest();
    Check.due("enter()", x.enter(), LifeLinks.FULL);
    Check.due("digest() behind enter()", x.digest(), before);
  }
}
