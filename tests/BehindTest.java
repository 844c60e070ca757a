import java.util.ArrayList;
import java.util.Arrays;
import java.util.List;

/**
 * What one call leaves for the others: each of those that change something, and behind it each one
 * that tells something, against the ENTRIES as they are then.
 */
public final class BehindTest {
  // Told in full, line by line, with answers worked out by hand from the document.
  private static final String FIRST = "banna:1700;wana:1722.21;danna:1760.59";
  // Registers that are asked beside the model; the last text stays on THE PAGE.
  private static final String[][] REGISTERS = {
      {"banne:1701;wanne:1722"},
      {FIRST, "banne:1701;wanne:1722"},
      {"bpit:1700;bbit:1701;wpit:1720;dpit:1750.50;dbit:1751", "dpid:1749;wbid:1725"},
      {"wanna:1720;wana:1721;wanna:1722;wanna:1723;banna:1700", "wanne:1724;danna:1760"},
      {"danna:1760.60;banna:1700;banna:1700;wanna:1725.25;danna:1750", "banna:1700;wanna:1699"}};
  private static final int MOST_CALLS = 512;

  public static void main(String[] args) {
    nothingYet();
    enterLeaves();
    strikeLeaves();
    ageLeaves();
    partLeaves();
    boundLeastLeaves();
    boundSlackLeaves();
    boundDoubtLeaves();
    letterAndBlankLeave();
    numbersOfThoseBehind();
    partedGoWithTheirEntries();
    boundsStayForThoseThatCome();
    whoComesAgainIsNew();
    eachChange();
    eachTwoChanges();
    eachChangeOfTheFullest();
    Check.end();
  }

  private static void told(String name, LifeLinks x, String... wants) {
    List<String> got = Told.lines(x);
    Check.due("lines " + name, got.size(), wants.length);
    for (int k = 0; k < Math.min(got.size(), wants.length); k++) {
      if (!got.get(k).equals(wants[k])) {
        System.out.println("told: " + got.get(k) + "\n due: " + wants[k]);
      }
      Check.holds("line " + k + " " + name, got.get(k).equals(wants[k]));
    }
  }

  // ---- by hand

  /** "BORN of a LIFE: what all its ENTRIES have in common": one LIFE of three ENTRIES. */
  private static void nothingYet() {
    told("at first", Check.made(FIRST),
        "0: BIRTH anna 1700 as 1700 age -1 born 1700-1700 life 0 doubtful 0"
            + " fits 2 nearest 2 mate 2",
        "1: WEDDING ana 1722 as 1722 age 21 born 1699-1702 life 0 doubtful 0 fits 2 nearest 0",
        "2: BURIAL anna 1760 as 1760 age 59 born 1699-1702 life 0 doubtful 0"
            + " fits 2 nearest 0 mate 0",
        "0+1: distance 2 likeness 750 why 0 worth 950 years 1",
        "0+2: distance 0 likeness 1000 why 0 worth 1200 years 1",
        "1+2: distance 2 likeness 750 why 0 worth 800 years 4",
        "lives 1 pairs 1 worth 1200 doubtful 0 shaky 0 single 0",
        "life 0: birth 0 burial 2 weddings 1 born 1700-1700 shaky 0 entries 3 last 1760"
            + " worth 1=875",
        "count 3 1 1 1 0 1 0 0");
  }

  /** "THE PAGE is read as ENTRIES, which come, in order": a second pair, for the WEDDING too. */
  private static void enterLeaves() {
    LifeLinks x = Check.made(FIRST);
    nothingMoreIsAsked(x);
    Check.enter(x, "banne:1701;danne:1761.60");
    told("behind enter()", x,
        "0: BIRTH anna 1700 as 1700 age -1 born 1700-1700 life 0 doubtful 0"
            + " fits 3 nearest 2 mate 2",
        "1: WEDDING ana 1722 as 1722 age 21 born 1699-1702 life 0 doubtful 0 fits 4 nearest 0",
        "2: BURIAL anna 1760 as 1760 age 59 born 1699-1702 life 0 doubtful 0"
            + " fits 3 nearest 0 mate 0",
        "3: BIRTH anne 1701 as 1701 age -1 born 1701-1701 life 1 doubtful 0"
            + " fits 3 nearest 4 mate 4",
        "4: BURIAL anne 1761 as 1761 age 60 born 1699-1702 life 1 doubtful 0"
            + " fits 3 nearest 3 mate 3",
        "0+1: distance 2 likeness 750 why 0 worth 950 years 1",
        "0+2: distance 0 likeness 1000 why 0 worth 1200 years 1",
        "0+3: distance 1 likeness 875 why 1 worth -1 years 0",
        "0+4: distance 1 likeness 875 why 0 worth 1075 years 1",
        "1+2: distance 2 likeness 750 why 0 worth 800 years 4",
        "1+3: distance 3 likeness 625 why 0 worth 825 years 1",
        "1+4: distance 3 likeness 625 why 0 worth 675 years 4",
        "2+3: distance 1 likeness 875 why 0 worth 1075 years 1",
        "2+4: distance 1 likeness 875 why 2 worth -1 years 4",
        "3+4: distance 0 likeness 1000 why 0 worth 1200 years 1",
        "lives 2 pairs 2 worth 2400 doubtful 0 shaky 0 single 0",
        "life 0: birth 0 burial 2 weddings 1 born 1700-1700 shaky 0 entries 3 last 1760"
            + " worth 1=875",
        "life 1: birth 3 burial 4 weddings born 1701-1701 shaky 0 entries 2 last 1761"
            + " worth 1=750",
        "count 5 2 1 2 0 2 0 0");
  }

  private static void nothingMoreIsAsked(LifeLinks x) {
    Check.due("digest() again", x.digest(), x.digest());
  }

  /** "An ENTRY is struck out; those behind it have a number less by 1 each". */
  private static void strikeLeaves() {
    LifeLinks x = Check.made(FIRST, "banne:1701;danne:1761.60");
    nothingMoreIsAsked(x);
    Check.due("strike(0)", x.strike(0), 4);
    // At the BURIAL alone the WEDDING is worth 800, at the pair 750: that is near.
    x.bound(2, 50);
    told("behind strike(0)", x,
        "0: WEDDING ana 1722 as 1722 age 21 born 1699-1702 life -1 doubtful 1 fits 3 nearest 2",
        "1: BURIAL anna 1760 as 1760 age 59 born 1699-1702 life 1 doubtful 0"
            + " fits 2 nearest 2 mate -1",
        "2: BIRTH anne 1701 as 1701 age -1 born 1701-1701 life 0 doubtful 0"
            + " fits 3 nearest 3 mate 3",
        "3: BURIAL anne 1761 as 1761 age 60 born 1699-1702 life 0 doubtful 0"
            + " fits 2 nearest 2 mate 2",
        "0+1: distance 2 likeness 750 why 0 worth 800 years 4",
        "0+2: distance 3 likeness 625 why 0 worth 825 years 1",
        "0+3: distance 3 likeness 625 why 0 worth 675 years 4",
        "1+2: distance 1 likeness 875 why 0 worth 1075 years 1",
        "1+3: distance 1 likeness 875 why 2 worth -1 years 4",
        "2+3: distance 0 likeness 1000 why 0 worth 1200 years 1",
        "lives 2 pairs 1 worth 1200 doubtful 1 shaky 0 single 1",
        "life 0: birth 2 burial 3 weddings born 1701-1701 shaky 0 entries 2 last 1761"
            + " worth 0=750",
        "life 1: birth -1 burial 1 weddings born 1699-1702 shaky 0 entries 1 last 1760"
            + " worth 0=800",
        "count 4 1 1 2 0 2 1 0");
  }

  /** "An ENTRY has another AGE": one by which the two still FIT, and one by which they do not. */
  private static void ageLeaves() {
    LifeLinks x = Check.made(FIRST);
    nothingMoreIsAsked(x);
    Check.due("age(1, 20)", x.age(1, 20), 21);
    Check.due("entry(1, 4)", x.entry(1, 4), 1700);
    Check.due("entry(1, 5)", x.entry(1, 5), 1703);
    Check.due("two(1, 2, 4)", x.two(1, 2, 4), 3);
    Check.due("two(1, 2, 3)", x.two(1, 2, 3), 816);
    Check.due("worth(1, 0)", x.worth(1, 0), 883);
    Check.due("age(2, 50)", x.age(2, 50), 59);
    told("behind age(1, 20), age(2, 50)", x,
        "0: BIRTH anna 1700 as 1700 age -1 born 1700-1700 life 0 doubtful 0"
            + " fits 1 nearest 1 mate -1",
        "1: WEDDING ana 1722 as 1722 age 20 born 1700-1703 life 0 doubtful 0 fits 1 nearest 0",
        "2: BURIAL anna 1760 as 1760 age 50 born 1708-1711 life 1 doubtful 0"
            + " fits 0 nearest -1 mate -1",
        "0+1: distance 2 likeness 750 why 0 worth 950 years 1",
        "0+2: distance 0 likeness 1000 why 5 worth -1 years 0",
        "1+2: distance 2 likeness 750 why 5 worth -1 years 0",
        "lives 2 pairs 0 worth 0 doubtful 0 shaky 0 single 1",
        "life 0: birth 0 burial -1 weddings 1 born 1700-1700 shaky 0 entries 2 last 1722"
            + " worth 1=950",
        "life 1: birth -1 burial 2 weddings born 1708-1711 shaky 0 entries 1 last 1760"
            + " worth 1=-1",
        "count 3 1 1 1 0 1 0 0");
  }

  /** "Two ENTRIES are PARTED, or, if they are, not any more": and all is as it was. */
  private static void partLeaves() {
    LifeLinks x = Check.made(FIRST);
    nothingMoreIsAsked(x);
    long before = x.digest();
    Check.due("part(2, 0)", x.part(2, 0), 1);
    told("behind part(2, 0)", x,
        "0: BIRTH anna 1700 as 1700 age -1 born 1700-1700 life 0 doubtful 0"
            + " fits 1 nearest 1 mate -1",
        "1: WEDDING ana 1722 as 1722 age 21 born 1699-1702 life 0 doubtful 0 fits 2 nearest 0",
        "2: BURIAL anna 1760 as 1760 age 59 born 1699-1702 life 1 doubtful 0"
            + " fits 1 nearest 1 mate -1",
        "0+1: distance 2 likeness 750 why 0 worth 950 years 1",
        "0+2: distance 0 likeness 1000 why 3 worth -1 years 1",
        "1+2: distance 2 likeness 750 why 0 worth 800 years 4",
        "lives 2 pairs 0 worth 0 doubtful 0 shaky 0 single 1",
        "life 0: birth 0 burial -1 weddings 1 born 1700-1700 shaky 0 entries 2 last 1722"
            + " worth 1=950",
        "life 1: birth -1 burial 2 weddings born 1699-1702 shaky 0 entries 1 last 1760"
            + " worth 1=800",
        "count 3 1 1 1 0 1 0 1");
    Check.due("part(0, 2)", x.part(0, 2), 0);
    Check.due("digest() behind it", x.digest(), before);
  }

  /** "A bound is another one: what = 0 LEAST". */
  private static void boundLeastLeaves() {
    LifeLinks x = Check.made(FIRST);
    nothingMoreIsAsked(x);
    Check.due("bound(0, 751)", x.bound(0, 751), 600);
    told("behind bound(0, 751)", x,
        "0: BIRTH anna 1700 as 1700 age -1 born 1700-1700 life 0 doubtful 0"
            + " fits 1 nearest 2 mate 2",
        "1: WEDDING ana 1722 as 1722 age 21 born 1699-1702 life 1 doubtful 0 fits 0 nearest -1",
        "2: BURIAL anna 1760 as 1760 age 59 born 1699-1702 life 0 doubtful 0"
            + " fits 1 nearest 0 mate 0",
        "0+1: distance 2 likeness 750 why 6 worth -1 years 1",
        "0+2: distance 0 likeness 1000 why 0 worth 1200 years 1",
        "1+2: distance 2 likeness 750 why 6 worth -1 years 4",
        "lives 2 pairs 1 worth 1200 doubtful 0 shaky 0 single 1",
        "life 0: birth 0 burial 2 weddings born 1700-1700 shaky 0 entries 2 last 1760"
            + " worth 1=-1",
        "life 1: birth -1 burial -1 weddings 1 born 1699-1702 shaky 0 entries 1 last 1722 worth",
        "count 3 1 1 1 0 1 0 0");
  }

  /** "A bound is another one: .. 1 SLACK". */
  private static void boundSlackLeaves() {
    LifeLinks x = Check.made(FIRST);
    nothingMoreIsAsked(x);
    Check.due("bound(1, 5)", x.bound(1, 5), 1);
    told("behind bound(1, 5)", x,
        "0: BIRTH anna 1700 as 1700 age -1 born 1700-1700 life 0 doubtful 0"
            + " fits 2 nearest 2 mate 2",
        "1: WEDDING ana 1722 as 1722 age 21 born 1695-1706 life 0 doubtful 0 fits 2 nearest 0",
        "2: BURIAL anna 1760 as 1760 age 59 born 1695-1706 life 0 doubtful 0"
            + " fits 2 nearest 0 mate 0",
        "0+1: distance 2 likeness 750 why 0 worth 950 years 1",
        "0+2: distance 0 likeness 1000 why 0 worth 1200 years 1",
        "1+2: distance 2 likeness 750 why 0 worth 766 years 12",
        "lives 1 pairs 1 worth 1200 doubtful 0 shaky 0 single 0",
        "life 0: birth 0 burial 2 weddings 1 born 1700-1700 shaky 0 entries 3 last 1760"
            + " worth 1=858",
        "count 3 1 1 1 0 1 0 0");
  }

  /** "A bound is another one: .. 2 DOUBT": the WEDDING is worth 875 and 750, the pairs 1200 and 1075. */
  private static void boundDoubtLeaves() {
    LifeLinks x = Check.made(FIRST, "banne:1701;danne:1761.60");
    nothingMoreIsAsked(x);
    Check.due("bound(2, 125)", x.bound(2, 125), 40);
    Check.due("entry(1, 6)", x.entry(1, 6), LifeLinks.NONE);
    Check.due("entry(1, 7)", x.entry(1, 7), 1);
    for (int life = 0; life < 2; life++) {
      Check.due("life(" + life + ", 2)", x.life(life, 2), 0);
      Check.due("life(" + life + ", 5)", x.life(life, 5), 1);
      Check.due("wedding(" + life + ", 0)", x.wedding(life, 0), LifeLinks.UNKNOWN);
    }
    int[] lives = {2, 2, 2400, 1, 2, 0};
    for (int what = 0; what < lives.length; what++) {
      Check.due("lives(" + what + ")", x.lives(what), lives[what]);
    }
    Check.due("bound(2, 124)", x.bound(2, 124), 125);
    Check.due("wedding(0, 0)", x.wedding(0, 0), 1);
    Check.due("life(0, 5)", x.life(0, 5), 0);
    Check.due("life(1, 5)", x.life(1, 5), 0);
  }

  /** THE PAGE is none of the ENTRIES: what it holds is told by fault, count and digest alone. */
  private static void letterAndBlankLeave() {
    LifeLinks x = Check.made(FIRST);
    List<String> before = Told.lines(x);
    long digest = x.digest();
    Check.type(x, "banna:1700");
    List<String> written = Told.lines(x);
    Check.due("count(4)", x.count(4), 10);
    Check.holds("all lines but that of count()", written.subList(0, written.size() - 1)
        .equals(before.subList(0, before.size() - 1)));
    Check.holds("another digest", x.digest() != digest);
    Check.due("blank()", x.blank(), 10);
    Check.due("digest() behind blank()", x.digest(), digest);
    Check.holds("all lines behind blank()", Told.lines(x).equals(before));
  }

  /** "those behind it have a number less by 1 each": what tells numbers tells those. */
  private static void numbersOfThoseBehind() {
    LifeLinks x = Check.made("dotto:1700;wulla:1790;wanna:1722;banna:1700;danna:1760");
    Check.due("mate(3)", x.mate(3), 4);
    Check.due("nearest(2)", x.nearest(2), 3);
    Check.due("wedding(0, 0)", x.wedding(0, 0), 2);
    Check.due("strike(1)", x.strike(1), 4);
    Check.due("mate(2)", x.mate(2), 3);
    Check.due("mate(3)", x.mate(3), 2);
    Check.due("nearest(1)", x.nearest(1), 2);
    // The WEDDING and the BURIAL are worth as much with the BIRTH.
    Check.due("nearest(2)", x.nearest(2), 1);
    Check.due("nearest(3)", x.nearest(3), 2);
    Check.due("wedding(0, 0)", x.wedding(0, 0), 1);
    Check.due("life(0, 0)", x.life(0, 0), 2);
    Check.due("life(0, 1)", x.life(0, 1), 3);
    Check.due("life(1, 1)", x.life(1, 1), 0);
    Check.due("as(2, 0)", x.as(2, 0), 1700);
    Check.due("entry(4, 0)", x.entry(4, 0), LifeLinks.UNKNOWN);
  }

  /** "Two ENTRIES are PARTED": they are, not the numbers that they had. */
  private static void partedGoWithTheirEntries() {
    LifeLinks x = Check.made("wotto:1720;banna:1700;wanna:1722;danna:1760;wana:1723");
    Check.due("part(1, 3)", x.part(1, 3), 1);
    Check.due("part(2, 4)", x.part(2, 4), 1);
    Check.due("strike(0)", x.strike(0), 4);
    int[][] whys = {{0, 1, 0}, {0, 2, 3}, {0, 3, 0}, {1, 2, 0}, {1, 3, 3}, {2, 3, 0}};
    for (int[] why : whys) {
      String two = why[0] + ", " + why[1];
      Check.due("two(" + two + ", 2)", x.two(why[0], why[1], 2), why[2]);
    }
    Check.due("count(7)", x.count(7), 2);
    Check.due("strike(2)", x.strike(2), 3);
    Check.due("two(1, 2, 2)", x.two(1, 2, 2), 3);
    Check.due("count(7)", x.count(7), 1);
  }

  /** "A bound is another one": for ENTRIES that come behind it, too, whoever is struck out. */
  private static void boundsStayForThoseThatCome() {
    LifeLinks x = new LifeLinks();
    Check.due("bound(0, 700)", x.bound(0, 700), 600);
    Check.due("bound(1, 3)", x.bound(1, 3), 1);
    Check.due("bound(2, 500)", x.bound(2, 500), 40);
    Check.enter(x, "banna:1700;wana:1722.21;wenna:1722.21");
    Check.due("strike(2)", x.strike(2), 2);
    Check.due("entry(1, 4)", x.entry(1, 4), 1722 - 21 - 1 - 3);
    Check.due("entry(1, 5)", x.entry(1, 5), 1722 - 21 + 3);
    Check.due("two(0, 1, 2)", x.two(0, 1, 2), 0);
    Check.due("bound(0, 751)", x.bound(0, 751), 700);
    Check.due("two(0, 1, 2)", x.two(0, 1, 2), 6);
    Check.due("bound(1, 0)", x.bound(1, 0), 3);
    Check.due("bound(2, 0)", x.bound(2, 0), 500);
  }

  /** An ENTRY that comes has nothing of one that was struck out, and the last number. */
  private static void whoComesAgainIsNew() {
    LifeLinks x = Check.made(FIRST);
    x.part(1, 0);
    x.age(1, 60);
    Check.due("strike(1)", x.strike(1), 2);
    Check.enter(x, "wana:1722");
    Check.due("entry(2, 0)", x.entry(2, 0), 1);
    Check.due("entry(2, 2)", x.entry(2, 2), LifeLinks.NONE);
    Check.due("two(2, 0, 2)", x.two(2, 0, 2), 0);
    Check.due("count(7)", x.count(7), 0);
    Check.due("age(2, 21)", x.age(2, 21), LifeLinks.NONE);
    Check.due("worth(2, 0)", x.worth(2, 0), 875);
    Check.due("wedding(0, 0)", x.wedding(0, 0), 2);
  }

  // ---- beside the model

  /** What the calls of a test made of an object, done to another object or to a model. */
  private static final class Made {
    private final List<OneCall> calls = new ArrayList<>();

    Made(String... texts) {
      for (int k = 0; k < texts.length; k++) {
        for (char sign : texts[k].toCharArray()) {
          calls.add(new OneCall("letter", sign));
        }
        if (k < texts.length - 1) {
          calls.add(new OneCall("enter"));
        }
      }
      // So all that follows from the ENTRIES has been told before they change.
      calls.add(new OneCall("digest"));
    }

    Made(Made made, OneCall next) {
      calls.addAll(made.calls);
      calls.add(next);
    }

    <T> T of(T fresh) {
      for (OneCall call : calls) {
        call.of(fresh);
      }
      return fresh;
    }

    @Override
    public String toString() {
      return calls.subList(calls.lastIndexOf(last("digest")) + 1, calls.size()).toString();
    }

    private OneCall last(String name) {
      OneCall found = null;
      for (OneCall call : calls) {
        found = call.name.equals(name) ? call : found;
      }
      return found;
    }
  }

  private static List<OneCall> changes(Model model) {
    List<OneCall> changes = new ArrayList<>();
    int entries = model.count(0);
    for (int entry = 0; entry <= entries; entry++) {
      changes.add(new OneCall("strike", entry));
      for (int age : new int[] {-1, 0, 20, 60}) {
        changes.add(new OneCall("age", entry, age));
      }
      for (int other = 0; other < entry; other++) {
        changes.add(new OneCall("part", entry, other));
      }
    }
    int[][] bounds = {{0, 0}, {0, 750}, {0, 751}, {0, 1000}, {0, 1001}, {1, 0}, {1, 5}, {1, 6},
        {2, 0}, {2, 166}, {2, 500}, {2, 501}, {3, 0}};
    for (int[] bound : bounds) {
      changes.add(new OneCall("bound", bound));
    }
    changes.add(new OneCall("letter", 'x'));
    changes.add(new OneCall("letter", '.'));
    changes.add(new OneCall("letter", 127));
    changes.add(new OneCall("blank"));
    changes.add(new OneCall("enter"));
    return changes;
  }

  /** For each call that tells something all that can be asked, and a little beyond. */
  private static List<List<OneCall>> questions(Model model) {
    int entries = model.count(0);
    int lives = model.lives(0);
    List<List<OneCall>> all = new ArrayList<>();
    all.add(ofTwo("entry", entries, 8));
    all.add(ofTwo("sign", entries, 8));
    all.add(ofTwo("as", entries, 3));
    all.add(ofTwo("life", lives, 8));
    all.add(ofTwo("wedding", lives, 3));
    all.add(ofTwo("worth", entries, lives));
    List<OneCall> two = new ArrayList<>();
    for (OneCall call : ofTwo("two", entries, entries)) {
      for (int what = 0; what <= 5; what++) {
        two.add(new OneCall("two", call.numbers[0], call.numbers[1], what));
      }
    }
    all.add(two);
    all.add(ofOne("fits", entries));
    all.add(ofOne("nearest", entries));
    all.add(ofOne("mate", entries));
    all.add(ofOne("lives", 6));
    all.add(ofOne("count", 8));
    all.add(Arrays.asList(new OneCall("digest")));
    all.add(Arrays.asList(new OneCall("fault")));
    return all;
  }

  private static List<OneCall> ofOne(String name, int many) {
    List<OneCall> calls = new ArrayList<>();
    for (int one = 0; one <= many; one++) {
      calls.add(new OneCall(name, one));
    }
    return calls;
  }

  private static List<OneCall> ofTwo(String name, int ones, int others) {
    List<OneCall> calls = new ArrayList<>();
    for (int one = 0; one <= ones; one++) {
      for (int other = 0; other <= others; other++) {
        calls.add(new OneCall(name, one, other));
      }
    }
    return calls;
  }

  /** Each call that tells something is the first one that is asked of an object. */
  private static void askAll(Made made) {
    Model model = made.of(new Model());
    for (List<OneCall> questions : questions(model)) {
      LifeLinks x = made.of(new LifeLinks());
      int calls = made.calls.size();
      for (OneCall question : questions) {
        if (calls == MOST_CALLS) {
          x = made.of(new LifeLinks());
          calls = made.calls.size();
        }
        calls++;
        Check.due(question + " behind " + made, question.of(x), question.of(model));
      }
    }
  }

  /** Each call that changes something, or is refused, and behind it each one that tells something. */
  private static void eachChange() {
    for (String[] texts : REGISTERS) {
      Made made = new Made(texts);
      for (OneCall change : changes(made.of(new Model()))) {
        Check.due(change + " of " + Arrays.toString(texts),
            change.of(made.of(new LifeLinks())), change.of(made.of(new Model())));
        askAll(new Made(made, change));
      }
    }
  }

  /** Two calls one behind the other, with nothing asked between: what the second answers, and all. */
  private static void eachTwoChanges() {
    for (String[] texts : REGISTERS) {
      Made made = new Made(texts);
      for (OneCall change : changes(made.of(new Model()))) {
        Made behind = new Made(made, change);
        for (OneCall second : changes(behind.of(new Model()))) {
          LifeLinks x = behind.of(new LifeLinks());
          Model model = behind.of(new Model());
          Check.due(second + " behind " + behind, second.of(x), second.of(model));
          Check.due("digest() behind " + second + " behind " + behind, x.digest(), model.digest());
        }
      }
    }
  }

  /** The same of 18 ENTRIES, where the first, a middle and the last one change. */
  private static void eachChangeOfTheFullest() {
    Made made = new Made(Edges.SEVEN_BIRTHS, Edges.SEVEN_WEDDINGS, Edges.FOUR_BURIALS, "wa:1727");
    OneCall[] changes = {new OneCall("strike", 0), new OneCall("strike", 9),
        new OneCall("strike", 17), new OneCall("age", 7, 19), new OneCall("age", 17, 60),
        new OneCall("part", 0, 17), new OneCall("part", 12, 13), new OneCall("bound", 0, 1000),
        new OneCall("bound", 1, 0), new OneCall("bound", 2, 0), new OneCall("enter")};
    for (OneCall change : changes) {
      askAll(new Made(made, change));
    }
  }
}
