/**
 * Promises 1 to 5 at their edges: for each sentence of the document that names a boundary case a
 * test of its own, with the sentence's words ahead of it.
 */
public final class EdgesTextsTest {
  private static final int NONE = LifeLinks.NONE;
  private static final int UNKNOWN = LifeLinks.UNKNOWN;
  private static final int OUTSIDE = LifeLinks.OUTSIDE;
  private static final int STATE = LifeLinks.STATE;
  private static final int FULL = LifeLinks.FULL;

  private static final int MOST_LETTERS = 60;
  private static final String LETTERS = "abcdefghijklmnopqrstuvwxyz";
  private static final String FIGURES = "0123456789";
  private static final String WHOLE = "babcdefgh:1600;wz:1899.14;da:1700.0;dy:1750;wx:1651.99";
  // Where WHOLE could end: behind a YEAR, and behind an AGE that is one.
  private static final int[] ENDS = {14, 22, 25, 33, 35, 43, 51, 54};
  private static final String SIXTY =
      "babcdef:1700;ba:1701;ba:1702;ba:1703;ba:1704;ba:1705;ba:1706";

  public static void main(String[] args) {
    promise1();
    promise2();
    promise3();
    promise4();
    promise5();
    Check.end();
  }

  private static void promise1() {
    promise1NoEntries();
    promise1NothingHasANumber();
    promise1BoundsAtFirst();
    promise1Digest();
  }

  private static void promise2() {
    promise2OutsideBelow32();
    promise2Code32();
    promise2Code126();
    promise2OutsideAbove126();
    promise2OutsideFarOff();
    promise2EachCode();
    promise2EachCodeOutside();
    promise2LetterSixty();
    promise2FullAboveSixty();
    promise2OutsideAheadOfFull();
    promise2FullEndsWithBlank();
    promise2FullEndsWithEnter();
  }

  private static void promise3() {
    promise3EmptyPage();
    promise3OneLetter();
    promise3SixtyLetters();
    promise3PageAlone();
  }

  private static void promise4() {
    promise4EmptyPage();
    promise4BreaksOffAnywhere();
    promise4WrongAtTheFirstPlace();
    promise4WrongAtTheLastPlace();
    promise4WrongAtAnyPlace();
    promise4FirstOfSeveral();
    promise4EachLetterBehindEachBeginning();
    promise4NameLetters();
    promise4Years();
    promise4WeddingAges();
    promise4BurialAges();
    promise4BirthAge();
    promise4ZeroAhead();
    promise4NothingBehindSemicolon();
    promise4SixtyLetters();
    promise4WhateverEntries();
    promise4ChangesNothing();
  }

  private static void promise5() {
    promise5EmptyPage();
    promise5BreaksOffAnywhere();
    promise5WrongAtAnyPlace();
    promise5NameLetters();
    promise5Years();
    promise5WeddingAges();
    promise5BurialAges();
    promise5BirthAge();
    promise5ZeroAhead();
    promise5NothingBehindSemicolon();
    promise5HowManyCame();
    promise5SevenAtOnce();
    promise5SevenBirths();
    promise5SevenWeddings();
    promise5SevenBurials();
    promise5Eighteen();
    promise5EighteenByOneText();
    promise5FullBringsNone();
    promise5FullLeavesThePage();
    promise5StateAheadOfFull();
    promise5StateAheadOfFullOfKind();
  }

  // ---- promise 1

  /** "No ENTRIES." */
  private static void promise1NoEntries() {
    LifeLinks x = new LifeLinks();
    for (int what = 0; what <= 7; what++) {
      Check.due("new: count(" + what + ")", x.count(what), 0);
    }
    for (int what = 0; what <= 5; what++) {
      Check.due("new: lives(" + what + ")", x.lives(what), 0);
    }
  }

  /** "UNKNOWN (a number names nothing)": of a new object none does. */
  private static void promise1NothingHasANumber() {
    LifeLinks x = new LifeLinks();
    int[] numbers = {0, 1, -1, 17, 18, Edges.FAR_BELOW, Edges.FAR_ABOVE};
    Edges.refused(x, "entry(.., 0)", n -> x.entry(n, 0), UNKNOWN, numbers);
    Edges.refused(x, "sign(.., 0)", n -> x.sign(n, 0), UNKNOWN, numbers);
    Edges.refused(x, "as(.., 0)", n -> x.as(n, 0), UNKNOWN, numbers);
    Edges.refused(x, "strike", x::strike, UNKNOWN, numbers);
    Edges.refused(x, "age(.., NONE)", n -> x.age(n, NONE), UNKNOWN, numbers);
    Edges.refused(x, "part(0, ..)", n -> x.part(0, n), UNKNOWN, numbers);
    Edges.refused(x, "two(.., 1, 0)", n -> x.two(n, 1, 0), UNKNOWN, numbers);
    Edges.refused(x, "fits", x::fits, UNKNOWN, numbers);
    Edges.refused(x, "nearest", x::nearest, UNKNOWN, numbers);
    Edges.refused(x, "life(.., 0)", n -> x.life(n, 0), UNKNOWN, numbers);
    Edges.refused(x, "wedding(.., 0)", n -> x.wedding(n, 0), UNKNOWN, numbers);
    Edges.refused(x, "worth(.., 0)", n -> x.worth(n, 0), UNKNOWN, numbers);
    Edges.refused(x, "mate", x::mate, UNKNOWN, numbers);
  }

  /** "600 at first", "1 at first", "40 at first". */
  private static void promise1BoundsAtFirst() {
    LifeLinks x = new LifeLinks();
    Check.due("LEAST at first", x.bound(0, 0), 600);
    Check.due("SLACK at first", x.bound(1, 0), 1);
    Check.due("DOUBT at first", x.bound(2, 0), 40);
    LifeLinks other = new LifeLinks();
    Check.due("LEAST of another object", other.bound(0, 0), 600);
  }

  /** "h is 1567": then lives() for 0 to 5 and count() for 0 to 7, all of them 0. */
  private static void promise1Digest() {
    long h = 1567;
    for (int zero = 0; zero < 6 + 8; zero++) {
      h = 31 * h;
    }
    Check.due("new: digest()", new LifeLinks().digest(), h);
  }

  // ---- promise 2

  private static void oneLetter(int code, int want) {
    LifeLinks x = new LifeLinks();
    long before = x.digest();
    Check.due("letter(" + code + ")", x.letter(code), want);
    Check.due("count(4) behind letter(" + code + ")", x.count(4), want == OUTSIDE ? 0 : want);
    Check.holds("digest() behind letter(" + code + ")",
        (x.digest() == before) == (want == OUTSIDE));
  }

  /** "OUTSIDE: code (32 to 126)": one too small. */
  private static void promise2OutsideBelow32() {
    oneLetter(31, OUTSIDE);
  }

  /** "OUTSIDE: code (32 to 126)": the least. */
  private static void promise2Code32() {
    oneLetter(32, 1);
  }

  /** "OUTSIDE: code (32 to 126)": the greatest. */
  private static void promise2Code126() {
    oneLetter(126, 1);
  }

  /** "OUTSIDE: code (32 to 126)": one too large. */
  private static void promise2OutsideAbove126() {
    oneLetter(127, OUTSIDE);
  }

  /** "OUTSIDE: code (32 to 126)": far off; what is left of it as a byte would be a letter. */
  private static void promise2OutsideFarOff() {
    int[] far = {0, -1, -98, 128, 256 + 'b', 65536 + 'b', Edges.FAR_BELOW, Edges.FAR_ABOVE};
    for (int code : far) {
      oneLetter(code, OUTSIDE);
    }
  }

  /** "A letter comes behind THE PAGE, by its code": each of them. */
  private static void promise2EachCode() {
    StringBuilder early = new StringBuilder();
    StringBuilder late = new StringBuilder();
    for (int code = 32; code <= 126; code++) {
      (code < 32 + MOST_LETTERS ? early : late).append((char) code);
    }
    for (String text : new String[] {early.toString(), late.toString()}) {
      LifeLinks x = new LifeLinks();
      Check.type(x, text);
      Check.due("digest() with " + text, x.digest(), Check.digestByCalls(x, text));
    }
  }

  /** "OUTSIDE: code (32 to 126)": each one on either side. */
  private static void promise2EachCodeOutside() {
    for (int code = -300; code <= 600; code++) {
      oneLetter(code, code >= 32 && code <= 126 ? 1 : OUTSIDE);
    }
  }

  private static LifeLinks withSixtyLetters() {
    LifeLinks x = new LifeLinks();
    Check.type(x, SIXTY);
    return x;
  }

  /** "FULL: above 60": the letter that makes THE PAGE 60. */
  private static void promise2LetterSixty() {
    LifeLinks x = new LifeLinks();
    Check.type(x, SIXTY.substring(0, 59));
    Check.due("letter 60", x.letter('6'), 60);
    Check.due("count(4)", x.count(4), 60);
  }

  /** "FULL: above 60": the one behind it; "they change nothing". */
  private static void promise2FullAboveSixty() {
    LifeLinks x = withSixtyLetters();
    Edges.refused(x, "letter 61", x::letter, FULL, 32, 'b', ';', 126);
    Check.due("count(4)", x.count(4), 60);
    Check.due("fault()", x.fault(), 60);
    Check.due("enter()", x.enter(), 7);
  }

  /** "of several the first as told by each call": OUTSIDE ahead of FULL. */
  private static void promise2OutsideAheadOfFull() {
    LifeLinks x = withSixtyLetters();
    Edges.refusedOutside(x, "letter 61", x::letter, OUTSIDE, 32, 126);
    Check.due("count(4)", x.count(4), 60);
  }

  /** "FULL: above 60": an empty PAGE takes 60 again. */
  private static void promise2FullEndsWithBlank() {
    LifeLinks x = withSixtyLetters();
    Check.due("letter 61", x.letter('b'), FULL);
    Check.due("blank()", x.blank(), 60);
    Check.type(x, SIXTY);
    Check.due("letter 61 again", x.letter('b'), FULL);
  }

  /** "FULL: above 60": so it does when its ENTRIES came. */
  private static void promise2FullEndsWithEnter() {
    LifeLinks x = withSixtyLetters();
    Check.due("letter 61", x.letter('b'), FULL);
    Check.due("enter()", x.enter(), 7);
    Check.type(x, SIXTY);
    Check.due("letter 61 again", x.letter('b'), FULL);
  }

  // ---- promise 3

  /** "THE PAGE is empty: how many letters it had": an empty one. */
  private static void promise3EmptyPage() {
    LifeLinks x = new LifeLinks();
    long before = x.digest();
    Check.due("blank()", x.blank(), 0);
    Check.due("digest()", x.digest(), before);
    Check.due("blank() again", x.blank(), 0);
  }

  /** "how many letters it had": one. */
  private static void promise3OneLetter() {
    LifeLinks x = new LifeLinks();
    long before = x.digest();
    Check.due("letter", x.letter('b'), 1);
    Check.due("blank()", x.blank(), 1);
    Check.due("count(4)", x.count(4), 0);
    Check.due("digest()", x.digest(), before);
    Check.due("blank() again", x.blank(), 0);
  }

  /** "how many letters it had": 60. */
  private static void promise3SixtyLetters() {
    LifeLinks x = withSixtyLetters();
    Check.due("blank()", x.blank(), 60);
    Check.due("count(4)", x.count(4), 0);
    Check.due("fault()", x.fault(), 0);
    Check.due("enter()", x.enter(), STATE);
    Check.due("the letters behind it are gone too", x.letter('b'), 1);
    Check.due("fault()", x.fault(), 1);
  }

  /** "THE PAGE is empty": all else stays. */
  private static void promise3PageAlone() {
    LifeLinks x = Edges.fullest();
    long before = x.digest();
    Check.type(x, "ba:1700");
    Check.due("blank()", x.blank(), 7);
    Check.due("digest()", x.digest(), before);
    Check.due("count(0)", x.count(0), 18);
    Check.due("count(5)", x.count(5), 3);
  }

  // ---- promise 4

  private static void fault(String text, int want) {
    LifeLinks x = new LifeLinks();
    Check.type(x, text);
    Check.due("fault() of " + text, x.fault(), want);
    Check.due("fault() again of " + text, x.fault(), want);
  }

  /** "how many letters it has, if there is none": an empty PAGE. */
  private static void promise4EmptyPage() {
    fault("", 0);
  }

  /** "how many letters it has, if there is none": a text that breaks off, anywhere. */
  private static void promise4BreaksOffAnywhere() {
    for (int end = 0; end <= WHOLE.length(); end++) {
      fault(WHOLE.substring(0, end), end);
    }
  }

  /** "The place (from 0) of the first letter": the first place. */
  private static void promise4WrongAtTheFirstPlace() {
    fault("a", 0);
    fault("~" + WHOLE.substring(1), 0);
    fault(";" + WHOLE, 0);
    fault(" " + WHOLE, 0);
    fault("x".repeat(60), 0);
  }

  /** "The place (from 0) of the first letter": the last place. */
  private static void promise4WrongAtTheLastPlace() {
    fault(WHOLE.substring(0, 53) + "~", 53);
    fault(SIXTY.substring(0, 59) + ";", 59);
    fault(WHOLE + ".", 54);
    fault(WHOLE + "0", 54);
  }

  /** "The place (from 0) of the first letter": any place. */
  private static void promise4WrongAtAnyPlace() {
    for (int place = 0; place < WHOLE.length(); place++) {
      fault(WHOLE.substring(0, place) + "~" + WHOLE.substring(place + 1), place);
    }
  }

  /** "of the first letter of THE PAGE that no such text has there": the first one of several. */
  private static void promise4FirstOfSeveral() {
    fault("b~:1700;~", 1);
    fault("ba:1~00;~~", 4);
    fault("~b~", 0);
  }

  private static void next(String beginning, String allowed) {
    for (char code = 32; code <= 126; code++) {
      int place = beginning.length();
      fault(beginning + code, allowed.indexOf(code) >= 0 ? place + 1 : place);
    }
  }

  /** "that no such text has there, behind those ahead of it": each code behind each beginning. */
  private static void promise4EachLetterBehindEachBeginning() {
    next("", "bwd");
    for (String kind : new String[] {"b", "w", "d"}) {
      next(kind, LETTERS);
      next(kind + "a", LETTERS + ":");
      next(kind + "abcdefg", LETTERS + ":");
      next(kind + "abcdefgh", ":");
      next(kind + "a:", "1");
      next(kind + "a:1", "678");
      next(kind + "a:16", FIGURES);
      next(kind + "a:18", FIGURES);
      next(kind + "a:160", FIGURES);
      next(kind + "a:189", FIGURES);
      next(kind + "a:1700;", "bwd");
    }
    next("ba:1700", ";");
    next("wa:1700", ";.");
    next("da:1700", ";.");
    next("wa:1700.", "123456789");
    next("wa:1700.1", "456789");
    next("wa:1700.2", FIGURES);
    next("wa:1700.9", FIGURES);
    next("wa:1700.14", ";");
    next("wa:1700.99", ";");
    next("wa:1700.14;", "bwd");
    next("da:1700.", FIGURES);
    next("da:1700.0", ";");
    next("da:1700.1", FIGURES + ";");
    next("da:1700.9", FIGURES + ";");
    next("da:1700.10", ";");
    next("da:1700.99", ";");
    next("da:1700.0;", "bwd");
  }

  /** "a NAME (1 to 8 letters "a" to "z")": of 0, 1, 8 and 9 letters, just beside "a" and "z". */
  private static void promise4NameLetters() {
    for (String kind : new String[] {"b", "w", "d"}) {
      fault(kind + ":1700", 1);
      fault(kind + "a:1700", 7);
      fault(kind + "z:1700", 7);
      fault(kind + "abcdefgh:1700", 14);
      fault(kind + "abcdefghi:1700", 9);
      fault(kind + "`:1700", 1);
      fault(kind + "{:1700", 1);
      fault(kind + "abc`:1700", 4);
      fault(kind + "abc{:1700", 4);
      fault(kind + "abcA:1700", 4);
    }
  }

  /** "a YEAR (1600 to 1899)", "the four figures of the YEAR". */
  private static void promise4Years() {
    for (String kind : new String[] {"b", "w", "d"}) {
      fault(kind + "a:1599", 4);
      fault(kind + "a:1600", 7);
      fault(kind + "a:1899", 7);
      fault(kind + "a:1900", 4);
      fault(kind + "a:0999", 3);
      fault(kind + "a:2000", 3);
      fault(kind + "a:01700", 3);
      fault(kind + "a:170", 6);
      fault(kind + "a:170;", 6);
      fault(kind + "a:17000", 7);
    }
  }

  /** "can have an AGE (a WEDDING 14 to 99 ..)". */
  private static void promise4WeddingAges() {
    fault("wa:1700.13", 9);
    fault("wa:1700.14", 10);
    fault("wa:1700.99", 10);
    fault("wa:1700.100", 9);
    fault("wa:1700.990", 10);
    fault("wa:1700.0", 8);
    fault("wa:1700.2;", 9);
    fault("wa:1700.9;", 9);
  }

  /** "can have an AGE (.. a BURIAL 0 to 99 ..)". */
  private static void promise4BurialAges() {
    fault("da:1700.0", 9);
    fault("da:1700.1", 9);
    fault("da:1700.13", 10);
    fault("da:1700.99", 10);
    fault("da:1700.100", 10);
    fault("da:1700.-1", 8);
  }

  /** "can have an AGE (.. a BIRTH none)". */
  private static void promise4BirthAge() {
    fault("ba:1700.", 7);
    fault("ba:1700.0", 7);
    fault("ba:1700.14", 7);
  }

  /** "and that (without a 0 ahead)". */
  private static void promise4ZeroAhead() {
    fault("da:1700.00", 9);
    fault("da:1700.05", 9);
    fault("da:1700.0;", 10);
    fault("wa:1700.014", 8);
  }

  /** "ENTRIES with ";" between": nothing behind it is a text that breaks off. */
  private static void promise4NothingBehindSemicolon() {
    fault("ba:1700;", 8);
    fault("wa:1700.14;", 11);
    fault("da:1700.0;", 10);
    fault("ba:1700;;", 8);
    fault(";", 0);
    fault("ba:1700,ba:1701", 7);
  }

  /** "how many letters it has, if there is none": 60, with a text that breaks off and a whole one. */
  private static void promise4SixtyLetters() {
    fault(SIXTY, 60);
    fault(Edges.SEVEN_BIRTHS + ";ba:1", 60);
    fault(Edges.SEVEN_BIRTHS + ";ba:5", 59);
  }

  /** "(whatever ENTRIES there are)". */
  private static void promise4WhateverEntries() {
    LifeLinks x = Edges.fullest();
    for (String text : new String[] {"ba:1700", "wa:1700.14", "da:1700"}) {
      Check.type(x, text);
      Check.due("fault() of " + text + " in the fullest register", x.fault(), text.length());
      Check.due("enter() of " + text + " in the fullest register", x.enter(), FULL);
      Check.due("blank()", x.blank(), text.length());
    }
  }

  /** "they change nothing" is of refusals; what is only told changes nothing, either. */
  private static void promise4ChangesNothing() {
    LifeLinks x = Edges.fullest();
    Check.type(x, "wa:1700.14;~");
    long before = x.digest();
    Check.due("fault()", x.fault(), 11);
    Check.due("digest()", x.digest(), before);
  }

  // ---- promise 5

  private static void comes(String text, int want) {
    LifeLinks x = new LifeLinks();
    Check.type(x, text);
    Check.due("enter() of " + text, x.enter(), want);
    Check.due("count(0) behind enter() of " + text, x.count(0), want);
    Check.due("count(4) behind enter() of " + text, x.count(4), 0);
    Check.due("count(5) behind enter() of " + text, x.count(5), 1);
  }

  private static void refusedEnter(LifeLinks x, String text, int want) {
    Check.type(x, text);
    long before = x.digest();
    Check.due("enter() of " + text, x.enter(), want);
    Check.due("digest() behind enter() of " + text, x.digest(), before);
    Check.due("count(4) behind enter() of " + text, x.count(4), text.length());
  }

  private static void noText(String text) {
    LifeLinks x = new LifeLinks();
    refusedEnter(x, text, STATE);
    Check.due("count(0) behind enter() of " + text, x.count(0), 0);
    Check.due("count(5) behind enter() of " + text, x.count(5), 0);
  }

  /** "ENTRIES as a text, one at least", "STATE: it is none": an empty PAGE. */
  private static void promise5EmptyPage() {
    noText("");
    LifeLinks x = Edges.fullest();
    long before = x.digest();
    Check.due("enter() of the empty page", x.enter(), STATE);
    Check.due("digest()", x.digest(), before);
  }

  /** "STATE: it is none": a text that breaks off is one only behind a YEAR or an AGE. */
  private static void promise5BreaksOffAnywhere() {
    int next = 0;
    for (int end = 1; end <= WHOLE.length(); end++) {
      String text = WHOLE.substring(0, end);
      if (end == ENDS[next]) {
        comes(text, text.split(";").length);
        next++;
      } else {
        noText(text);
      }
    }
  }

  /** "STATE: it is none": a letter is wrong, at the first place, at the last, at any. */
  private static void promise5WrongAtAnyPlace() {
    for (int place = 0; place < WHOLE.length(); place++) {
      noText(WHOLE.substring(0, place) + "~" + WHOLE.substring(place + 1));
    }
    noText(SIXTY.substring(0, 59) + "x");
    noText(WHOLE + " ");
    noText(" " + WHOLE);
    noText("x" + SIXTY.substring(1));
  }

  /** "a NAME (1 to 8 letters "a" to "z")". */
  private static void promise5NameLetters() {
    for (String kind : new String[] {"b", "w", "d"}) {
      noText(kind + ":1700");
      comes(kind + "a:1700", 1);
      comes(kind + "abcdefgh:1700", 1);
      noText(kind + "abcdefghi:1700");
      noText(kind + "ab`:1700");
      noText(kind + "ab{:1700");
    }
    LifeLinks x = Check.made("bz:1700;wabcdefgh:1700");
    Check.due("entry(0, 3)", x.entry(0, 3), 1);
    Check.due("entry(1, 3)", x.entry(1, 3), 8);
    Check.due("sign(1, 7)", x.sign(1, 7), 'h');
  }

  /** "a YEAR (1600 to 1899)". */
  private static void promise5Years() {
    for (String kind : new String[] {"b", "w", "d"}) {
      noText(kind + "a:1599");
      comes(kind + "a:1600", 1);
      comes(kind + "a:1899", 1);
      noText(kind + "a:1900");
      noText(kind + "a:170");
      noText(kind + "a:17000");
    }
    LifeLinks x = Check.made("ba:1600;wa:1899");
    Check.due("entry(0, 1)", x.entry(0, 1), 1600);
    Check.due("entry(1, 1)", x.entry(1, 1), 1899);
  }

  /** "a WEDDING 14 to 99". */
  private static void promise5WeddingAges() {
    noText("wa:1700.13");
    comes("wa:1700.14", 1);
    comes("wa:1700.99", 1);
    noText("wa:1700.100");
    noText("wa:1700.");
    noText("wa:1700.9");
    LifeLinks x = Check.made("wa:1700.14;wa:1700.99;wa:1700");
    Check.due("entry(0, 2)", x.entry(0, 2), 14);
    Check.due("entry(1, 2)", x.entry(1, 2), 99);
    Check.due("entry(2, 2)", x.entry(2, 2), NONE);
  }

  /** "a BURIAL 0 to 99". */
  private static void promise5BurialAges() {
    comes("da:1700.0", 1);
    comes("da:1700.99", 1);
    noText("da:1700.100");
    noText("da:1700.");
    LifeLinks x = Check.made("da:1700.0;da:1700.99;da:1700.9;da:1700");
    Check.due("entry(0, 2)", x.entry(0, 2), 0);
    Check.due("entry(1, 2)", x.entry(1, 2), 99);
    Check.due("entry(2, 2)", x.entry(2, 2), 9);
    Check.due("entry(3, 2)", x.entry(3, 2), NONE);
  }

  /** "a BIRTH none". */
  private static void promise5BirthAge() {
    noText("ba:1700.0");
    noText("ba:1700.14");
    noText("ba:1700.");
    Check.due("entry(0, 2)", Check.made("ba:1700").entry(0, 2), NONE);
  }

  /** "without a 0 ahead". */
  private static void promise5ZeroAhead() {
    noText("da:1700.00");
    noText("da:1700.05");
    noText("wa:1700.014");
  }

  /** "ENTRIES with ";" between". */
  private static void promise5NothingBehindSemicolon() {
    noText("ba:1700;");
    noText("wa:1700.14;");
    noText("da:1700.0;");
    noText(";ba:1700");
    noText("ba:1700;;ba:1700");
    noText(";");
  }

  /** "how many came", "in order": one, and more, behind those that are there. */
  private static void promise5HowManyCame() {
    LifeLinks x = new LifeLinks();
    Check.type(x, "ba:1600");
    Check.due("enter() of one", x.enter(), 1);
    Check.type(x, "wc:1650.20;db:1660");
    Check.due("enter() of two", x.enter(), 2);
    int[] names = {'a', 'c', 'b'};
    for (int entry = 0; entry < 3; entry++) {
      Check.due("entry(" + entry + ", 0)", x.entry(entry, 0), entry);
      Check.due("sign(" + entry + ", 0)", x.sign(entry, 0), names[entry]);
    }
    Check.due("count(5)", x.count(5), 2);
  }

  /** "how many came": the most that THE PAGE can hold. */
  private static void promise5SevenAtOnce() {
    comes(SIXTY, 7);
    comes("ba:1700;wa:1700;da:1700;ba:1700;wa:1700;da:1700;ba:1700", 7);
  }

  private static void sevenOf(String kind) {
    String six = Edges.SEVEN_BIRTHS.substring(0, 47).replace("b", kind);
    LifeLinks x = Check.made(six);
    refusedEnter(x, kind + "a:1706;" + kind + "a:1707", FULL);
    Check.due("blank()", x.blank(), 15);
    Check.type(x, kind + "a:1706");
    Check.due("enter() of the seventh " + kind, x.enter(), 1);
    refusedEnter(x, kind + "a:1707", FULL);
    Check.due("strike(0)", x.strike(0), 6);
    Check.due("enter() of a seventh " + kind + " again", x.enter(), 1);
  }

  /** "or more than seven of a KIND": BIRTHS. */
  private static void promise5SevenBirths() {
    sevenOf("b");
  }

  /** "or more than seven of a KIND": WEDDINGS. */
  private static void promise5SevenWeddings() {
    sevenOf("w");
  }

  /** "or more than seven of a KIND": BURIALS. */
  private static void promise5SevenBurials() {
    sevenOf("d");
  }

  /** "FULL: there would be more than 18": the 18th, and the 19th, of which there are not yet seven. */
  private static void promise5Eighteen() {
    LifeLinks x = Check.made(Edges.SEVEN_BIRTHS.substring(0, 47),
        Edges.SEVEN_WEDDINGS.substring(0, 47), "da:1760;da:1761;da:1762;da:1763;da:1764");
    Check.due("count(0)", x.count(0), 17);
    Check.type(x, "da:1765");
    Check.due("enter() of the 18th", x.enter(), 1);
    for (String kind : new String[] {"b", "w", "d"}) {
      refusedEnter(x, kind + "a:1766", FULL);
      Check.due("blank()", x.blank(), 7);
    }
    Check.due("strike(17)", x.strike(17), 17);
    Check.type(x, "wa:1766");
    Check.due("enter() of an 18th again", x.enter(), 1);
    Check.due("count(0)", x.count(0), 18);
  }

  /** "FULL: there would be more than 18": by one of two. */
  private static void promise5EighteenByOneText() {
    LifeLinks x = Check.made(Edges.SEVEN_BIRTHS.substring(0, 47),
        Edges.SEVEN_WEDDINGS.substring(0, 47), "da:1760;da:1761;da:1762;da:1763");
    refusedEnter(x, "wa:1765;ba:1765;da:1765", FULL);
    Check.due("blank()", x.blank(), 23);
    Check.type(x, "wa:1765;ba:1765");
    Check.due("enter() of the 17th and the 18th", x.enter(), 2);
    Check.due("count(0)", x.count(0), 18);
  }

  /** "they change nothing": of a text that is FULL none comes, of no KIND. */
  private static void promise5FullBringsNone() {
    LifeLinks x = Check.made(Edges.SEVEN_BIRTHS);
    refusedEnter(x, "wa:1720;da:1760;ba:1707", FULL);
    Check.due("count(0)", x.count(0), 7);
    Check.due("count(2)", x.count(2), 0);
    Check.due("count(5)", x.count(5), 1);
  }

  /** "they change nothing": THE PAGE of a text that is FULL stays, and comes when there is room. */
  private static void promise5FullLeavesThePage() {
    LifeLinks x = Edges.fullest();
    refusedEnter(x, "wz:1899.99", FULL);
    Check.due("strike(0)", x.strike(0), 17);
    Check.due("there are seven WEDDINGS still", x.enter(), FULL);
    Check.due("strike(6)", x.strike(6), 16);
    Check.due("enter()", x.enter(), 1);
    Check.due("entry(16, 2)", x.entry(16, 2), 99);
    Check.due("sign(16, 0)", x.sign(16, 0), 'z');
    Check.due("count(4)", x.count(4), 0);
    Check.due("count(5)", x.count(5), 4);
  }

  /** "STATE: it is none; FULL": STATE is told first, in the fullest register. */
  private static void promise5StateAheadOfFull() {
    LifeLinks x = Edges.fullest();
    refusedEnter(x, "ba:1700;", STATE);
    Check.due("blank()", x.blank(), 8);
    refusedEnter(x, "ba:1700;~", STATE);
    Check.due("blank()", x.blank(), 9);
    refusedEnter(x, "ba:1700;wa:1700.1", STATE);
  }

  /** "STATE: it is none; FULL": STATE is told first, where seven are of the KIND. */
  private static void promise5StateAheadOfFullOfKind() {
    LifeLinks x = Check.made(Edges.SEVEN_BIRTHS);
    refusedEnter(x, "ba:1700;b", STATE);
    Check.due("letter", x.letter('a'), 10);
    Check.due("enter()", x.enter(), STATE);
    Check.type(x, ":1700");
    Check.due("enter() of a whole text", x.enter(), FULL);
  }
}
