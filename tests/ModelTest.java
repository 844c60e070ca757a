import java.util.Random;

/** All promises: long runs of calls, the same ones each time, beside the document read a second time. */
public final class ModelTest {
  private static final int RUNS = 160;
  // What an object answers behind its 512th call is free.
  private static final int MOST_CALLS = 512;
  private static final int MOST_AT_ONCE = 4;
  private static final String[] NAMES = {"anna", "ana", "hanna", "anne", "hana", "hannah", "enne",
      "a", "o", "b", "pit", "bit", "bid", "pieter", "peter", "abcdefgh", "zzzzzzzz"};
  private static final int[] ODD = {-1, 0, 1, 2, 3, 5, 6, 7, 8, 13, 14, 17, 18, 99, 100,
      Integer.MIN_VALUE, Integer.MAX_VALUE};

  private final Random random;
  private final LifeLinks x = new LifeLinks();
  private final Model model = new Model();
  private final int firstYear;
  private final int span;
  private final int names;
  private String waiting = "";
  private int calls;

  private ModelTest(int run) {
    random = new Random(run);
    // Some registers are of few names and years, so that many entries fit.
    names = 1 + random.nextInt(NAMES.length);
    span = 1 + random.nextInt(run % 3 == 0 ? 300 : 60);
    firstYear = 1600 + random.nextInt(301 - span);
  }

  public static void main(String[] args) {
    for (int run = 0; run < RUNS; run++) {
      new ModelTest(run).callAll("run " + run);
    }
    Check.end();
  }

  private void callAll(String run) {
    while (calls < MOST_CALLS - MOST_AT_ONCE) {
      callOne(run + ", call " + calls + ": ");
    }
    while (calls < MOST_CALLS) {
      due(run + ", call " + calls + ": digest()", x.digest(), model.digest());
    }
  }

  private void due(String call, long got, long want) {
    calls++;
    Check.due(call, got, want);
  }

  private int odd(int below) {
    return random.nextInt(25) == 0 ? ODD[random.nextInt(ODD.length)] : random.nextInt(below);
  }

  private int number() {
    return odd(Math.max(1, model.count(0)));
  }

  private String newEntry() {
    int kind = random.nextInt(3);
    StringBuilder text = new StringBuilder("bwd".substring(kind, kind + 1));
    text.append(NAMES[random.nextInt(names)]).append(':');
    int from = kind == 0 ? 0 : kind == 1 ? 20 : 50;
    text.append(Math.min(1899, firstYear + from + random.nextInt(span)));
    if (kind == 1 && random.nextBoolean()) {
      text.append('.').append(14 + random.nextInt(30));
    } else if (kind == 2 && random.nextBoolean()) {
      text.append('.').append(random.nextInt(100));
    }
    return text.toString();
  }

  private String newText() {
    StringBuilder text = new StringBuilder(newEntry());
    while (text.length() < 40 && random.nextInt(4) > 0) {
      text.append(';').append(newEntry());
    }
    if (random.nextInt(6) == 0) {
      int place = random.nextInt(text.length());
      text.setCharAt(place, (char) (32 + random.nextInt(95)));
    }
    return text.toString();
  }

  private void write(String at) {
    if (waiting.isEmpty()) {
      if (random.nextInt(8) == 0) {
        due(at + "fault()", x.fault(), model.fault());
      }
      due(at + "enter()", x.enter(), model.enter());
      if (model.count(4) > 0) {
        due(at + "blank()", x.blank(), model.blank());
      }
      waiting = newText();
    }
    int code = random.nextInt(200) == 0 ? odd(130) : waiting.charAt(0);
    waiting = waiting.substring(1);
    due(at + "letter(" + code + ")", x.letter(code), model.letter(code));
  }

  private void callOne(String at) {
    int kind = random.nextInt(40);
    if (kind < 20) {
      write(at);
    } else if (kind < 26) {
      change(at);
    } else {
      ask(at);
    }
  }

  private void change(String at) {
    int one = number();
    int other = number();
    int what = odd(3);
    switch (random.nextInt(9)) {
      case 0:
        if (random.nextInt(3) == 0) {
          due(at + "strike(" + one + ")", x.strike(one), model.strike(one));
        }
        break;
      case 1:
      case 2:
        int age = random.nextInt(4) == 0 ? -1 : odd(102);
        due(at + "age(" + one + ", " + age + ")", x.age(one, age), model.age(one, age));
        break;
      case 3:
      case 4:
        due(at + "part(" + one + ", " + other + ")",
            x.part(one, other), model.part(one, other));
        break;
      case 5:
        int v = odd(what == 0 ? 1002 : what == 1 ? 7 : 502);
        due(at + "bound(" + what + ", " + v + ")", x.bound(what, v), model.bound(what, v));
        break;
      case 6:
        int doubt = random.nextInt(120);
        due(at + "bound(2, " + doubt + ")", x.bound(2, doubt), model.bound(2, doubt));
        break;
      case 7:
        int least = 300 + random.nextInt(500);
        due(at + "bound(0, " + least + ")", x.bound(0, least), model.bound(0, least));
        break;
      default:
        due(at + "fault()", x.fault(), model.fault());
        break;
    }
  }

  private void ask(String at) {
    int one = number();
    int other = number();
    int what = odd(8);
    String two = "(" + one + ", " + what + ")";
    switch (random.nextInt(14)) {
      case 0:
      case 1:
        due(at + "entry" + two, x.entry(one, what), model.entry(one, what));
        break;
      case 2:
        due(at + "sign" + two, x.sign(one, what), model.sign(one, what));
        break;
      case 3:
        due(at + "as" + two, x.as(one, what), model.as(one, what));
        break;
      case 4:
        due(at + "two(" + one + ", " + other + ", " + what + ")",
            x.two(one, other, what), model.two(one, other, what));
        break;
      case 5:
        due(at + "fits(" + one + ")", x.fits(one), model.fits(one));
        break;
      case 6:
        due(at + "nearest(" + one + ")", x.nearest(one), model.nearest(one));
        break;
      case 7:
        due(at + "lives(" + what + ")", x.lives(what), model.lives(what));
        break;
      case 8:
        due(at + "life" + two, x.life(one, what), model.life(one, what));
        break;
      case 9:
        due(at + "wedding" + two, x.wedding(one, what % 4), model.wedding(one, what % 4));
        break;
      case 10:
        due(at + "worth(" + one + ", " + other + ")",
            x.worth(one, other), model.worth(one, other));
        break;
      case 11:
        due(at + "mate(" + one + ")", x.mate(one), model.mate(one));
        break;
      case 12:
        due(at + "count(" + what + ")", x.count(what), model.count(what));
        break;
      default:
        due(at + "digest()", x.digest(), model.digest());
        break;
    }
  }
}
