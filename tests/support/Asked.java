import java.util.ArrayList;
import java.util.List;
import java.util.function.Supplier;

/**
 * What digest() goes through, asked by the other calls. An object has 512 calls, and a full register
 * takes more: so another one, made by the same calls, is asked when one has answered often.
 */
final class Asked {
  private static final int OFTEN = 200;

  private final Supplier<LifeLinks> maker;
  private final List<Long> numbers = new ArrayList<>();
  private LifeLinks asked;
  private int calls;

  Asked(Supplier<LifeLinks> maker) {
    this.maker = maker;
  }

  List<Long> numbers(String page) {
    int entries = one().count(0);
    for (int entry = 0; entry < entries; entry++) {
      ofEntry(entry);
    }
    for (int one = 0; one < entries; one++) {
      for (int other = one + 1; other < entries; other++) {
        for (int what = 0; what <= 4; what++) {
          numbers.add((long) one().two(one, other, what));
        }
      }
    }
    for (int what = 0; what <= 5; what++) {
      numbers.add((long) one().lives(what));
    }
    int lives = one().lives(0);
    for (int life = 0; life < lives; life++) {
      ofLife(life);
    }
    for (int place = 0; place < page.length(); place++) {
      numbers.add((long) page.charAt(place));
    }
    for (int what = 0; what <= 7; what++) {
      numbers.add((long) one().count(what));
    }
    return numbers;
  }

  private void ofEntry(int entry) {
    for (int what = 0; what <= 7; what++) {
      numbers.add((long) one().entry(entry, what));
    }
    int letters = one().entry(entry, 3);
    for (int place = 0; place < letters; place++) {
      numbers.add((long) one().sign(entry, place));
    }
    numbers.add((long) one().fits(entry));
    numbers.add((long) one().nearest(entry));
  }

  private void ofLife(int life) {
    for (int what = 0; what <= 7; what++) {
      numbers.add((long) one().life(life, what));
    }
    int weddings = one().life(life, 2);
    for (int place = 0; place < weddings; place++) {
      numbers.add((long) one().wedding(life, place));
    }
  }

  private LifeLinks one() {
    if (asked == null || calls == OFTEN) {
      asked = maker.get();
      calls = 0;
    }
    calls++;
    return asked;
  }
}
