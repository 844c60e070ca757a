/** What every test of the project uses: it compares answers, writes texts, and tells how it ended. */
final class Check {
  private static int wrong = 0;
  private static int compared = 0;

  private Check() {
  }

  static void due(String call, long got, long want) {
    compared++;
    if (got != want) {
      wrong++;
      System.out.println(call + " answered " + got + ", due is " + want);
    }
  }

  static void holds(String what, boolean good) {
    due(what, good ? 1 : 0, 1);
  }

  /** Ends the program, with exit code 1 if an answer was not the one that is due. */
  static void end() {
    if (wrong > 0 || compared == 0) {
      System.out.println(wrong + " of " + compared + " answers are not as due");
      System.exit(1);
    }
    System.out.println(compared + " answers are as due");
  }

  /** Writes a text on THE PAGE. */
  static void type(LifeLinks x, String text) {
    for (int k = 0; k < text.length(); k++) {
      int before = x.count(4);
      due("letter of " + text + " at " + k, x.letter(text.charAt(k)), before + 1);
    }
  }

  static void enter(LifeLinks x, String text) {
    type(x, text);
    due("enter() of " + text, x.enter(), text.split(";").length);
  }

  /** A new object with the ENTRIES of some texts. */
  static LifeLinks made(String... texts) {
    LifeLinks x = new LifeLinks();
    for (String text : texts) {
      enter(x, text);
    }
    return x;
  }

  /** The digest of an object, worked out from what its other calls answer. */
  static long digestByCalls(LifeLinks x, String page) {
    long h = 1567;
    int entries = x.count(0);
    for (int e = 0; e < entries; e++) {
      for (int what = 0; what <= 7; what++) {
        h = 31 * h + x.entry(e, what);
      }
      for (int place = 0; place < x.entry(e, 3); place++) {
        h = 31 * h + x.sign(e, place);
      }
      h = 31 * h + x.fits(e);
      h = 31 * h + x.nearest(e);
    }
    for (int one = 0; one < entries; one++) {
      for (int other = one + 1; other < entries; other++) {
        for (int what = 0; what <= 4; what++) {
          h = 31 * h + x.two(one, other, what);
        }
      }
    }
    for (int what = 0; what <= 5; what++) {
      h = 31 * h + x.lives(what);
    }
    for (int life = 0; life < x.lives(0); life++) {
      for (int what = 0; what <= 7; what++) {
        h = 31 * h + x.life(life, what);
      }
      for (int place = 0; place < x.life(life, 2); place++) {
        h = 31 * h + x.wedding(life, place);
      }
    }
    for (int place = 0; place < page.length(); place++) {
      h = 31 * h + page.charAt(place);
    }
    for (int what = 0; what <= 7; what++) {
      h = 31 * h + x.count(what);
    }
    return h;
  }
}
