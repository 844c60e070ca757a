import java.math.BigInteger;
import java.util.List;
import java.util.function.Supplier;

/**
 * Promises 21 and 22, and the 512 calls of an object, at their edges: for each sentence of the
 * document that names a boundary case a test of its own, with the sentence's words ahead of it.
 */
public final class EdgesTotalsTest {
  private static final int NONE = LifeLinks.NONE;
  private static final int OUTSIDE = LifeLinks.OUTSIDE;
  private static final int FULL = LifeLinks.FULL;
  private static final int MOST_CALLS = 512;

  public static void main(String[] args) {
    promise21Outside();
    promise21LeastAndGreatestWhat();
    promise21OfTheFullest();
    promise21LettersZeroAndSixty();
    promise21ReadNotRefused();
    promise21StruckOutNotRefused();
    promise21PartedNotAnyMore();
    promise22OfANewObject();
    promise22OfOneOfEachKind();
    promise22OfTheFullest();
    promise22OfTheLongestNames();
    promise22OfTheFullestChanged();
    promise22OfSixtyLetters();
    promise22Wrapping();
    promise22NoneAsALong();
    promise22EachTwoTheFirstOneFirst();
    promise22ChangesNothing();
    theDocument512CallsOfAll();
    theDocument512CallsOfOneKind();
    theDocument512CallsOfBooks();
    Check.end();
  }

  private static void count(LifeLinks x, int... wants) {
    for (int what = 0; what < wants.length; what++) {
      Check.due("count(" + what + ")", x.count(what), wants[what]);
    }
  }

  // ---- promise 21

  /** "OUTSIDE": what is 0 to 7. */
  private static void promise21Outside() {
    LifeLinks empty = new LifeLinks();
    Edges.refusedOutside(empty, "count", empty::count, OUTSIDE, 0, 7);
    LifeLinks x = Edges.fullest();
    Edges.refusedOutside(x, "count", x::count, OUTSIDE, 0, 7);
  }

  /** "How many: 0 ENTRIES .. 7 how many two are PARTED". */
  private static void promise21LeastAndGreatestWhat() {
    LifeLinks x = Check.made("banna:1700;danna:1760");
    x.part(0, 1);
    Check.due("count(0)", x.count(0), 2);
    Check.due("count(7)", x.count(7), 1);
  }

  /** "0 ENTRIES, 1 BIRTHS, 2 WEDDINGS, 3 BURIALS": none of each, and the most of each. */
  private static void promise21OfTheFullest() {
    count(new LifeLinks(), 0, 0, 0, 0, 0, 0, 0, 0);
    count(Edges.fullest(), 18, 7, 7, 4, 0, 3, 0, 0);
    LifeLinks x = Check.made(Edges.SEVEN_BIRTHS.replace('b', 'd'));
    count(x, 7, 0, 0, 7, 0, 1, 0, 0);
    for (int left = 6; left >= 0; left--) {
      x.strike(0);
    }
    count(x, 0, 0, 0, 0, 0, 1, 7, 0);
  }

  /** "4 letters of THE PAGE": none, 60, and none again. */
  private static void promise21LettersZeroAndSixty() {
    LifeLinks x = new LifeLinks();
    Check.due("count(4)", x.count(4), 0);
    Check.type(x, "~".repeat(60));
    Check.due("letter 61", x.letter('~'), FULL);
    Check.due("count(4)", x.count(4), 60);
    x.blank();
    Check.due("count(4)", x.count(4), 0);
  }

  /** "5 how often a text was read as ENTRIES": one of seven counts once, a refused one does not. */
  private static void promise21ReadNotRefused() {
    LifeLinks x = Check.made(Edges.SEVEN_BIRTHS);
    Check.due("count(5)", x.count(5), 1);
    x.enter();
    Check.due("count(5) behind STATE", x.count(5), 1);
    Check.type(x, "ba:1700");
    x.fault();
    Check.due("enter()", x.enter(), FULL);
    Check.due("count(5) behind FULL", x.count(5), 1);
    x.strike(0);
    Check.due("count(5) behind strike", x.count(5), 1);
    Check.due("enter()", x.enter(), 1);
    Check.due("count(5)", x.count(5), 2);
  }

  /** "6 how many were struck out": a refused one was not. */
  private static void promise21StruckOutNotRefused() {
    LifeLinks x = Check.made("banna:1700;danna:1760");
    x.strike(2);
    x.strike(-1);
    Check.due("count(6) behind refusals", x.count(6), 0);
    x.strike(1);
    x.strike(1);
    Check.due("count(6)", x.count(6), 1);
    Check.enter(x, "danna:1760");
    x.strike(1);
    Check.due("count(6)", x.count(6), 2);
  }

  /** "7 how many two are PARTED": not any more, refused, struck out. */
  private static void promise21PartedNotAnyMore() {
    LifeLinks x = Check.made("banna:1700;danna:1760;wanna:1720");
    x.part(0, 1);
    x.part(2, 1);
    x.part(0, 2);
    Check.due("count(7)", x.count(7), 3);
    x.part(1, 0);
    x.part(1, 1);
    x.part(1, 3);
    Check.due("count(7)", x.count(7), 2);
    x.strike(0);
    Check.due("count(7)", x.count(7), 1);
    x.strike(0);
    Check.due("count(7)", x.count(7), 0);
  }

  // ---- promise 22

  private static void digest(String name, Supplier<LifeLinks> maker, String page) {
    List<Long> numbers = new Asked(maker).numbers(page);
    Check.due("digest() of " + name, maker.get().digest(), Check.folded(numbers));
  }

  /** "h is 1567, then for each of these numbers": 14 of a new object. */
  private static void promise22OfANewObject() {
    LifeLinks x = new LifeLinks();
    List<Long> numbers = new Asked(LifeLinks::new).numbers("");
    Check.due("numbers of a new object", numbers.size(), 14);
    Check.due("digest()", x.digest(), Check.folded(numbers));
  }

  /** "of each ENTRY ..; of each LIFE life() for 0 to 7, and its WEDDINGS": one of each KIND alone. */
  private static void promise22OfOneOfEachKind() {
    digest("a birth", () -> Check.made("bz:1600"), "");
    digest("a wedding", () -> Check.made("wabcdefgh:1899.99"), "");
    digest("a burial", () -> Check.made("dz:1600.0"), "");
    digest("three apart", () -> Check.made("bz:1600;wa:1700;dh:1800"), "");
  }

  /** "of each ENTRY", "of each two ENTRIES", "of each LIFE": 18 ENTRIES, seven of a KIND. */
  private static void promise22OfTheFullest() {
    digest("the fullest register", Edges::fullest, "");
    Supplier<LifeLinks> burials = () -> Check.made(Edges.SEVEN_BIRTHS.replace('b', 'd'),
        Edges.SEVEN_BIRTHS, "wabcdefgh:1720.20;whgfedcba:1721.99;wz:1722;wz:1899");
    digest("another full one", burials, "");
  }

  private static LifeLinks longest() {
    return Check.made("babcdefgh:1700;babkdefgh:1701;bapcdefgh:1702;babctefgh:1703",
        "babcdewgh:1704;babcdefgx:1705;babcdefgh:1706;dabcdefgh:1760",
        "dabkdefgh:1761;dapcdefgh:1762;dabctefgh:1763;wabcdefgh:1720",
        "wabkdefgh:1721;wapcdefgh:1722;wabctefgh:1723;wabcdewgh:1724",
        "wabcdefgx:1725;wzzzzzzzz:1726");
  }

  /** "the letters of its NAME": eight of each of 18. */
  private static void promise22OfTheLongestNames() {
    digest("the longest names", EdgesTotalsTest::longest, "");
    Check.due("numbers of ENTRIES", longest().count(0), 18);
  }

  private static LifeLinks changed() {
    LifeLinks x = Edges.fullest();
    x.part(0, 17);
    x.part(3, 9);
    x.part(16, 17);
    x.bound(0, 0);
    x.bound(1, 5);
    x.bound(2, 500);
    x.age(17, 99);
    x.age(8, 14);
    x.strike(4);
    Check.type(x, "wz ~");
    return x;
  }

  /** "of each ENTRY", "of each two ENTRIES", "of each LIFE": behind each call that changes them. */
  private static void promise22OfTheFullestChanged() {
    digest("a changed register", EdgesTotalsTest::changed, "wz ~");
  }

  /** "letters of THE PAGE, each by its code": none, and 60 of them, the least and the greatest. */
  private static void promise22OfSixtyLetters() {
    String page = " ~".repeat(30);
    Supplier<LifeLinks> maker = () -> {
      LifeLinks x = Check.made("banna:1700");
      Check.type(x, page);
      return x;
    };
    digest("60 letters", maker, page);
  }

  /** "31 times h, and it (as longs, wrapping)": h goes far past the greatest long. */
  private static void promise22Wrapping() {
    BigInteger h = BigInteger.valueOf(1567);
    for (long number : new Asked(Edges::fullest).numbers("")) {
      h = h.multiply(BigInteger.valueOf(31)).add(BigInteger.valueOf(number));
    }
    Check.holds("h is past the greatest long", h.bitLength() > 4000);
    Check.due("digest()", Edges.fullest().digest(), h.longValue());
    BigInteger little = BigInteger.valueOf(1567).multiply(BigInteger.valueOf(31).pow(14));
    Check.holds("1567 * 31^14 is past it, too", little.bitLength() > 64);
    Check.due("digest() of a new object", new LifeLinks().digest(), little.longValue());
  }

  /** "and it (as longs ..)": NONE is -1 there, as a long. */
  private static void promise22NoneAsALong() {
    long[] numbers = {
        1, 1700, NONE, 1, 1640, 1686, 0, 0, 'a', 0, NONE,
        1, 0, 0, 0, 0, 1,
        NONE, NONE, 1, 1640, 1686, 0, 1, 1700, 0,
        1, 0, 1, 0, 0, 1, 0, 0};
    long h = 1567;
    for (long number : numbers) {
      h = 31 * h + number;
    }
    Check.due("digest()", Check.made("wa:1700").digest(), h);
  }

  /** "of each two ENTRIES (the first one first)": three two of three, in the order of numbers. */
  private static void promise22EachTwoTheFirstOneFirst() {
    Supplier<LifeLinks> maker = () -> Check.made("banna:1700;wana:1720;danno:1760");
    List<Long> numbers = new Asked(maker).numbers("");
    // 8 numbers of each ENTRY, its letters, and two more.
    int at = 3 * 10 + 4 + 3 + 4;
    int[] ones = {0, 0, 1};
    int[] others = {1, 2, 2};
    for (int two = 0; two < 3; two++) {
      for (int what = 0; what <= 4; what++) {
        long want = maker.get().two(ones[two], others[two], what);
        Check.due("number " + (at + 5 * two + what), numbers.get(at + 5 * two + what), want);
      }
    }
    digest("three", maker, "");
  }

  /** digest() tells; it is no change, and is the same again. */
  private static void promise22ChangesNothing() {
    LifeLinks x = changed();
    long before = x.digest();
    for (int again = 0; again < 3; again++) {
      Check.due("digest() again", x.digest(), before);
    }
    count(x, 17, 6, 7, 4, 4, 3, 1, 3);
  }

  // ---- "An object is used for at most 512 calls after it has been made"

  /**
   * "An object is used for at most 512 calls after it has been made": a run of just 512 calls, of each
   * kind, beside the model.
   */
  private static void theDocument512CallsOfAll() {
    LifeLinks x = new LifeLinks();
    Model model = new Model();
    int calls = 0;
    for (String text : new String[] {Edges.SEVEN_BIRTHS, Edges.SEVEN_WEDDINGS, Edges.FOUR_BURIALS}) {
      for (char code : text.toCharArray()) {
        Check.due("letter", x.letter(code), model.letter(code));
        calls++;
      }
      Check.due("enter()", x.enter(), model.enter());
      calls++;
    }
    for (; calls < MOST_CALLS - 1; calls++) {
      oneOfAll(x, model, calls);
    }
    Check.due("digest(), the 512th call", x.digest(), model.digest());
    Check.due("calls", calls + 1, MOST_CALLS);
  }

  private static void oneOfAll(LifeLinks x, Model m, int k) {
    int one = k % 19;
    int other = k * 7 % 18;
    int what = k % 9;
    switch (k % 17) {
      case 0: Check.due("part", x.part(one, other), m.part(one, other)); break;
      case 1: Check.due("age", x.age(one, 20 + what), m.age(one, 20 + what)); break;
      case 2: Check.due("bound", x.bound(2, 5 * one), m.bound(2, 5 * one)); break;
      case 3: Check.due("entry", x.entry(one, what), m.entry(one, what)); break;
      case 4: Check.due("sign", x.sign(one, what), m.sign(one, what)); break;
      case 5: Check.due("as", x.as(one, what), m.as(one, what)); break;
      case 6: Check.due("two", x.two(one, other, what), m.two(one, other, what)); break;
      case 7: Check.due("fits", x.fits(one), m.fits(one)); break;
      case 8: Check.due("nearest", x.nearest(one), m.nearest(one)); break;
      case 9: Check.due("lives", x.lives(what), m.lives(what)); break;
      case 10: Check.due("life", x.life(one, what), m.life(one, what)); break;
      case 11: Check.due("wedding", x.wedding(one, what), m.wedding(one, what)); break;
      case 12: Check.due("worth", x.worth(other, one), m.worth(other, one)); break;
      case 13: Check.due("mate", x.mate(one), m.mate(one)); break;
      case 14: Check.due("count", x.count(what), m.count(what)); break;
      case 15: Check.due("letter", x.letter(100 + what), m.letter(100 + what)); break;
      default: Check.due("digest", x.digest(), m.digest()); break;
    }
  }

  /** A run of just 512 calls, of which nearly all are the same one. */
  private static void theDocument512CallsOfOneKind() {
    LifeLinks x = new LifeLinks();
    for (int call = 1; call <= MOST_CALLS; call++) {
      Check.due("letter, call " + call, x.letter('b'), call <= 60 ? call : FULL);
    }
    LifeLinks y = new LifeLinks();
    for (int call = 1; call <= MOST_CALLS; call++) {
      Check.due("bound, call " + call, y.bound(2, call % 501), call == 1 ? 40 : (call - 1) % 501);
    }
    LifeLinks z = new LifeLinks();
    long digest = z.digest();
    for (int call = 2; call <= MOST_CALLS; call++) {
      Check.due("digest(), call " + call, z.digest(), digest);
    }
  }

  /** A run of just 512 calls, in which 56 texts are read, and 56 ENTRIES struck out. */
  private static void theDocument512CallsOfBooks() {
    LifeLinks x = new LifeLinks();
    String text = "da:1700";
    for (int book = 0; book < 56; book++) {
      for (int place = 0; place < text.length(); place++) {
        Check.due("letter", x.letter(text.charAt(place)), place + 1);
      }
      Check.due("enter()", x.enter(), 1);
      Check.due("strike(0)", x.strike(0), 0);
    }
    count(x, 0, 0, 0, 0, 0, 56, 56, 0);
  }
}
