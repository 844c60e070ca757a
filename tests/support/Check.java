import java.util.List;

/** What every test of the project uses: it compares answers, writes texts, and tells how it ended. */
final class Check {
  private static int wrong = 0;
  private static int compared = 0;

  private Check() {
  }

  static void due(String call, long got, long want) {
    compared++;
    if (got != want) {
      wrong++;
      System.out.println(call + " answered " + got + ", due is " + want);
    }
  }

  static void holds(String what, boolean good) {
    due(what, good ? 1 : 0, 1);
  }

  /** Ends the program, with exit code 1 if an answer was not the one that is due. */
  static void end() {
    if (wrong > 0 || compared == 0) {
      System.out.println(wrong + " of " + compared + " answers are not as due");
      System.exit(1);
    }
    System.out.println(compared + " answers are as due");
  }

  /** Writes a text on THE PAGE. An object has 512 calls: there is one for each letter, and one more. */
  static void type(LifeLinks x, String text) {
    int letters = x.count(4);
    for (int k = 0; k < text.length(); k++) {
      letters++;
      due("letter of " + text + " at " + k, x.letter(text.charAt(k)), letters);
    }
  }

  static void enter(LifeLinks x, String text) {
    type(x, text);
    due("enter() of " + text, x.enter(), text.split(";").length);
  }

  /** A new object with the ENTRIES of some texts. */
  static LifeLinks made(String... texts) {
    LifeLinks x = new LifeLinks();
    for (String text : texts) {
      enter(x, text);
    }
    return x;
  }

  /** The digest of an object, worked out from what its other calls answer. */
  static long digestByCalls(LifeLinks x, String page) {
    return folded(new Asked(() -> x).numbers(page));
  }

  /** What digest() makes of these numbers. */
  static long folded(List<Long> numbers) {
    long h = 1567;
    for (long number : numbers) {
      h = 31 * h + number;
    }
    return h;
  }
}
