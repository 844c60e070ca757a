import java.util.ArrayList;
import java.util.List;

/**
 * "Refusals, of several the first as told by each call: UNKNOWN (a number names nothing), OUTSIDE (it
 * is not as told), STATE (as told), FULL; they change nothing": each call with each odd number, in
 * registers that are empty, small and full, beside the model. No call throws.
 */
public final class RefusalsTest {
  private static final int[] ODD = {Integer.MIN_VALUE, -104, -103, -102, -101, -14, -2, -1, 0, 1, 2,
      3, 4, 5, 6, 7, 8, 9, 13, 14, 17, 18, 19, 31, 32, 59, 60, 61, 99, 100, 126, 127, 500, 501, 1000,
      1001, 1700, 65536, Integer.MAX_VALUE};
  // For calls of three numbers; the rest of a number that is cut off is none of a right one.
  private static final int[] FEW = {Integer.MIN_VALUE, -101, -2, -1, 0, 1, 2, 3, 4, 5, 6, 17, 18,
      256, 65536, Integer.MAX_VALUE};
  private static final String[] OF_NONE = {"blank", "fault", "enter", "digest"};
  private static final String[] OF_ONE =
      {"letter", "strike", "fits", "nearest", "lives", "mate", "count"};
  private static final String[] OF_TWO =
      {"entry", "sign", "as", "age", "part", "bound", "life", "wedding", "worth"};
  private static final String CHANGING = " letter blank enter strike age part bound ";
  private static final String[][] REGISTERS = {
      {""},
      {"", "wanna:1720.1"},
      {"banna:1700;wanna:1722.21;danna:1760.59", "wanna:1720;"},
      {"banna:1700;banna:1701;wanna:1722;danna:1760;wotto:1700", "dabcdefgh:1899.99"},
      {Edges.SEVEN_BIRTHS, Edges.SEVEN_WEDDINGS, Edges.FOUR_BURIALS, "da:1764"},
      {Edges.SEVEN_BIRTHS, "da:1760;da:1761;da:1762", "ba:1700;da:1763"},
      {Edges.SEVEN_BIRTHS, "~ba:1700" + " ".repeat(52)}};
  // Three calls for each that is asked, and those that made the register.
  private static final int ASKED_OF_ONE = 80;

  private final String[] texts;
  private LifeLinks x;
  private Model model;
  private int asked;

  private RefusalsTest(String[] texts) {
    this.texts = texts;
  }

  public static void main(String[] args) {
    for (String[] texts : REGISTERS) {
      RefusalsTest test = new RefusalsTest(texts);
      for (OneCall call : calls()) {
        test.ask(call);
      }
    }
    Check.end();
  }

  private static List<OneCall> calls() {
    List<OneCall> calls = new ArrayList<>();
    for (String name : OF_NONE) {
      calls.add(new OneCall(name));
    }
    for (int one : ODD) {
      for (String name : OF_ONE) {
        calls.add(new OneCall(name, one));
      }
      for (int other : ODD) {
        for (String name : OF_TWO) {
          calls.add(new OneCall(name, one, other));
        }
      }
    }
    for (int one : FEW) {
      for (int other : FEW) {
        for (int what : FEW) {
          calls.add(new OneCall("two", one, other, what));
        }
      }
    }
    return calls;
  }

  private void makeAnew() {
    x = new LifeLinks();
    model = new Model();
    for (int k = 0; k < texts.length; k++) {
      for (char sign : texts[k].toCharArray()) {
        Check.due("letter", x.letter(sign), model.letter(sign));
      }
      if (k < texts.length - 1) {
        Check.due("enter()", x.enter(), model.enter());
      }
    }
    if (model.count(0) > 2) {
      Check.due("part(0, 2)", x.part(0, 2), model.part(0, 2));
    }
    asked = 0;
  }

  /** The answer is the model's; what was refused or told alone left all as it was. */
  private void ask(OneCall call) {
    if (x == null || asked == ASKED_OF_ONE) {
      makeAnew();
    }
    asked++;
    long before = x.digest();
    long told = call.of(x);
    String name = call + " at " + String.join(";;", texts);
    Check.due(name, told, call.of(model));
    boolean changes = CHANGING.contains(" " + call.name + " ");
    if (told < LifeLinks.NONE && !call.name.equals("digest")) {
      Check.holds(name + " is refused by " + told, told >= LifeLinks.FULL && told <= -101);
    }
    if (!changes || told < LifeLinks.NONE) {
      Check.due("digest() behind " + name, x.digest(), before);
    } else {
      Check.due("digest() behind " + name, x.digest(), model.digest());
      x = null;
    }
  }
}
