/** Promises 1 to 5: a new object, letter, blank, fault, enter. */
public final class TextsTest {
  private static final int NONE = LifeLinks.NONE;
  private static final int UNKNOWN = LifeLinks.UNKNOWN;
  private static final int OUTSIDE = LifeLinks.OUTSIDE;
  private static final int STATE = LifeLinks.STATE;
  private static final int FULL = LifeLinks.FULL;

  public static void main(String[] args) {
    promise1NewObject();
    promise1Bounds();
    promise2Letter();
    promise2LetterFull();
    promise3Blank();
    promise4Fault();
    promise4FaultWhateverEntries();
    promise4FaultOfTextsThatAreNoEntries();
    promise5Enter();
    promise5EnterState();
    promise5EnterFullOfKind();
    promise5EnterFullOfAll();
    promise5EnterOrderOfRefusals();
    Check.end();
  }

  /** "LifeLinks(): No ENTRIES." */
  private static void promise1NewObject() {
    LifeLinks x = new LifeLinks();
    for (int what = 0; what <= 7; what++) {
      Check.due("new: count(" + what + ")", x.count(what), 0);
    }
    for (int what = 0; what <= 5; what++) {
      Check.due("new: lives(" + what + ")", x.lives(what), 0);
    }
    Check.due("new: entry(0, 0)", x.entry(0, 0), UNKNOWN);
    Check.due("new: life(0, 0)", x.life(0, 0), UNKNOWN);
    Check.due("new: fault()", x.fault(), 0);
    Check.due("new: enter()", x.enter(), STATE);
    long h = 1567;
    for (int k = 0; k < 14; k++) {
      h = 31 * h;
    }
    Check.due("new: digest()", x.digest(), h);
  }

  /**
   * "LEAST (0 to 1000, 600 at first)", "SLACK 0 to 5, 1 at first", "DOUBT .. (0 to 500, 40 at
   * first)".
   */
  private static void promise1Bounds() {
    LifeLinks x = new LifeLinks();
    Check.due("new: bound(0, 600)", x.bound(0, 600), 600);
    Check.due("new: bound(1, 1)", x.bound(1, 1), 1);
    Check.due("new: bound(2, 40)", x.bound(2, 40), 40);
    // Two objects have nothing in common.
    LifeLinks one = Check.made("ba:1700");
    LifeLinks other = new LifeLinks();
    Check.due("one: count(0)", one.count(0), 1);
    Check.due("other: count(0)", other.count(0), 0);
  }

  /**
   * "int letter(int code): A letter comes behind THE PAGE, by its code: how many THE PAGE has.
   * OUTSIDE: code (32 to 126)".
   */
  private static void promise2Letter() {
    LifeLinks x = new LifeLinks();
    int[] outside = {31, 127, 0, -1, 128, 10, Integer.MIN_VALUE, Integer.MAX_VALUE};
    for (int code : outside) {
      Check.due("letter(" + code + ")", x.letter(code), OUTSIDE);
    }
    Check.due("count(4) behind refusals", x.count(4), 0);
    Check.due("letter(32)", x.letter(32), 1);
    Check.due("letter(126)", x.letter(126), 2);
    Check.due("letter('A')", x.letter('A'), 3);
    Check.due("count(4)", x.count(4), 3);
    Check.due("digest()", x.digest(), Check.digestByCalls(x, " ~A"));
  }

  /** "OUTSIDE: code (32 to 126); FULL: above 60." */
  private static void promise2LetterFull() {
    LifeLinks x = new LifeLinks();
    for (int k = 1; k <= 60; k++) {
      Check.due("letter " + k, x.letter('b'), k);
    }
    long before = x.digest();
    Check.due("letter 61", x.letter('b'), FULL);
    Check.due("letter 61, outside", x.letter(31), OUTSIDE);
    Check.due("letter 61, outside", x.letter(127), OUTSIDE);
    Check.due("count(4)", x.count(4), 60);
    Check.due("digest() behind refusals", x.digest(), before);
    Check.due("blank()", x.blank(), 60);
    Check.due("letter on the empty page", x.letter('b'), 1);
  }

  /** "int blank(): THE PAGE is empty: how many letters it had." */
  private static void promise3Blank() {
    LifeLinks x = new LifeLinks();
    Check.due("blank() of none", x.blank(), 0);
    Check.type(x, "?!x");
    Check.due("blank()", x.blank(), 3);
    Check.due("count(4)", x.count(4), 0);
    Check.due("blank() again", x.blank(), 0);
    Check.due("fault() of none", x.fault(), 0);
    Check.enter(x, "ba:1700");
    Check.type(x, "wb");
    Check.due("blank()", x.blank(), 2);
    Check.due("entries stay", x.count(0), 1);
  }

  private static void fault(String text, int want) {
    LifeLinks x = new LifeLinks();
    Check.type(x, text);
    Check.due("fault() of " + text, x.fault(), want);
    Check.due("count(4) behind fault() of " + text, x.count(4), text.length());
  }

  /**
   * "int fault(): The place (from 0) of the first letter of THE PAGE that no such text has there,
   * behind those ahead of it; how many letters it has, if there is none."
   */
  private static void promise4Fault() {
    fault("", 0);
    fault("a", 0);
    fault("B", 0);
    fault(";", 0);
    fault("b", 1);
    fault("b:", 1);
    fault("bA", 1);
    fault("b1", 1);
    fault("b`", 1);
    fault("b{", 1);
    fault("baz:", 4);
    fault("babcdefgh", 9);
    fault("babcdefgh:1", 11);
    fault("babcdefghi", 9);
    fault("wabcdefghi", 9);
    fault("ba;", 2);
    fault("ba.", 2);
    fault("ba:;", 3);
    fault("ba:0", 3);
    fault("ba:2", 3);
    fault("ba:15", 4);
    fault("ba:16", 5);
    fault("ba:18", 5);
    fault("ba:19", 4);
    fault("ba:160;", 6);
    fault("ba:1600", 7);
    fault("ba:1899", 7);
    fault("ba:189/", 6);
    fault("ba:189:", 6);
    fault("ba:18990", 7);
    fault("ba:17 0", 5);
    fault("ba:1700.", 7);
    fault("ba:1700;", 8);
    fault("ba:1700;;", 8);
    fault("ba:1700; ", 8);
    fault("ba:1700;x", 8);
    fault("ba:1700;wb", 10);
    fault("ba:1700;wb:1600.14;dc:1899.0", 28);
    fault("wa:1700;", 8);
    fault("wa:1700.", 8);
    fault("wa:1700.0", 8);
    fault("wa:1700.;", 8);
    fault("wa:1700.1", 9);
    fault("wa:1700.1;", 9);
    fault("wa:1700.13", 9);
    fault("wa:1700.14", 10);
    fault("wa:1700.14;", 11);
    fault("wa:1700.9;", 9);
    fault("wa:1700.99", 10);
    fault("wa:1700.999", 10);
    fault("wa:1700.20", 10);
    fault("da:1700.", 8);
    fault("da:1700.;", 8);
    fault("da:1700.0", 9);
    fault("da:1700.00", 9);
    fault("da:1700.01", 9);
    fault("da:1700.0;", 10);
    fault("da:1700.5;", 10);
    fault("da:1700.13", 10);
    fault("da:1700.100", 10);
    fault("da:1700.99;b", 12);
    fault("da:1700.9.", 9);
    fault("da:1700/", 7);
  }

  /** "(whatever ENTRIES there are)": where enter() has no room for them. */
  private static void promise4FaultWhateverEntries() {
    LifeLinks x = Check.made("ba:1700;ba:1700;ba:1700;ba:1700;ba:1700;ba:1700;ba:1700");
    Check.type(x, "ba:1700");
    Check.due("fault() when the register takes no more", x.fault(), 7);
    Check.due("enter() when it takes no more", x.enter(), FULL);
    fault("ba:1700;ba:1700;ba:1700;ba:1700;ba:1700;ba:1700;ba:1700;ba:1", 60);
  }

  /**
   * "the first letter of THE PAGE that no such text has there": whatever letters come behind it.
   */
  private static void promise4FaultOfTextsThatAreNoEntries() {
    LifeLinks x = new LifeLinks();
    Check.type(x, "ba:1700;w");
    Check.due("fault()", x.fault(), 9);
    Check.due("fault() again", x.fault(), 9);
    Check.due("enter()", x.enter(), STATE);
    Check.due("letter", x.letter('?'), 10);
    Check.due("fault()", x.fault(), 9);
    Check.due("letter", x.letter('?'), 11);
    Check.due("the first one of several", x.fault(), 9);
  }

  /**
   * "int enter(): THE PAGE is read as ENTRIES, which come, in order: how many came; THE PAGE is
   * empty then."
   */
  private static void promise5Enter() {
    LifeLinks x = new LifeLinks();
    Check.type(x, "banna:1700;wabcdefgh:1899.14;dz:1600.0;dz:1601");
    Check.due("enter()", x.enter(), 4);
    Check.due("count(0)", x.count(0), 4);
    Check.due("count(4)", x.count(4), 0);
    Check.due("count(5)", x.count(5), 1);
    int[][] told = {{0, 1700, NONE, 4}, {1, 1899, 14, 8}, {2, 1600, 0, 1}, {2, 1601, NONE, 1}};
    for (int e = 0; e < told.length; e++) {
      for (int what = 0; what < 4; what++) {
        Check.due("entry(" + e + ", " + what + ")", x.entry(e, what), told[e][what]);
      }
    }
    Check.due("enter() of the empty page", x.enter(), STATE);
    Check.enter(x, "wq:1750.99");
    Check.due("entry(4, 2)", x.entry(4, 2), 99);
    Check.due("sign(4, 0)", x.sign(4, 0), 'q');
    Check.due("count(5)", x.count(5), 2);
  }

  private static void state(String text) {
    LifeLinks x = new LifeLinks();
    Check.type(x, text);
    long before = x.digest();
    Check.due("enter() of " + text, x.enter(), STATE);
    Check.due("digest() behind enter() of " + text, x.digest(), before);
  }

  /** "STATE: it is none". */
  private static void promise5EnterState() {
    String[] texts = {"", "b", "ba", "ba:", "ba:1", "ba:170", "ba:1700;", "ba:1700;w", "ba:1599",
        "ba:1900", "ba:1700.1", "wa:1700.", "wa:1700.1", "wa:1700.9", "wa:1700.13", "da:1700.",
        "da:1700.00", "da:1700.100", "da:1700.0;", "b:1700", "babcdefghi:1700", "ba:1700 ",
        " ba:1700", "ba:1700;;ba:1700", "Ba:1700"};
    for (String text : texts) {
      state(text);
    }
  }

  private static final String SIX_BIRTHS = "ba:1700;ba:1701;ba:1702;ba:1703;ba:1704;ba:1705";

  private static void refusedFull(LifeLinks x, String text) {
    Check.type(x, text);
    long before = x.digest();
    int reads = x.count(5);
    Check.due("enter() of " + text, x.enter(), FULL);
    Check.due("digest() behind it", x.digest(), before);
    Check.due("count(5) behind it", x.count(5), reads);
    Check.due("blank() behind it", x.blank(), text.length());
  }

  /** "FULL: there would be .. more than seven of a KIND." */
  private static void promise5EnterFullOfKind() {
    LifeLinks x = Check.made(SIX_BIRTHS);
    refusedFull(x, "ba:1706;ba:1707");
    refusedFull(x, "wa:1720;ba:1706;ba:1707");
    Check.enter(x, "ba:1706");
    refusedFull(x, "ba:1707");
    Check.enter(x, SIX_BIRTHS.replace('b', 'w'));
    Check.enter(x, "wa:1706");
    refusedFull(x, "wa:1707");
    LifeLinks y = Check.made(SIX_BIRTHS.replace('b', 'd'));
    refusedFull(y, "da:1706;da:1707");
    Check.enter(y, "da:1706");
    refusedFull(y, "da:1707.3");
  }

  /** "FULL: there would be more than 18". */
  private static void promise5EnterFullOfAll() {
    LifeLinks x = Check.made(SIX_BIRTHS, SIX_BIRTHS.replace('b', 'w'));
    Check.enter(x, "da:1700;da:1701;da:1702;da:1703;da:1704");
    refusedFull(x, "da:1705;wa:1706");
    Check.enter(x, "da:1705");
    Check.due("count(0)", x.count(0), 18);
    refusedFull(x, "da:1706");
    refusedFull(x, "ba:1706");
    refusedFull(x, "wa:1706");
    Check.due("strike(17)", x.strike(17), 17);
    Check.enter(x, "ba:1706");
    Check.due("entry(17, 1)", x.entry(17, 1), 1706);
  }

  /** "STATE: it is none; FULL: there would be more": in this order. */
  private static void promise5EnterOrderOfRefusals() {
    LifeLinks x = Check.made(SIX_BIRTHS, "ba:1706");
    Check.type(x, "ba:1707;");
    Check.due("enter() of no text on a full register", x.enter(), STATE);
    Check.due("blank()", x.blank(), 8);
    Check.due("enter() of the empty page", x.enter(), STATE);
  }
}
