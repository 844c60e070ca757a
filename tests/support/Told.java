import java.util.ArrayList;
import java.util.List;

/** All that an object tells, as lines that can be read. */
final class Told {
  private static final String[] KINDS = {"BIRTH", "WEDDING", "BURIAL"};

  private final LifeLinks x;
  private final List<String> lines = new ArrayList<>();

  private Told(LifeLinks x) {
    this.x = x;
  }

  static List<String> lines(LifeLinks x) {
    Told told = new Told(x);
    int entries = x.count(0);
    for (int entry = 0; entry < entries; entry++) {
      told.entry(entry);
    }
    for (int one = 0; one < entries; one++) {
      for (int other = one + 1; other < entries; other++) {
        told.two(one, other);
      }
    }
    told.lives();
    int lives = x.lives(0);
    for (int life = 0; life < lives; life++) {
      told.life(life);
    }
    told.count();
    return told.lines;
  }

  private void entry(int entry) {
    StringBuilder line = new StringBuilder();
    int kind = x.entry(entry, 0);
    line.append(entry).append(": ").append(KINDS[kind]).append(' ');
    int letters = x.entry(entry, 3);
    for (int place = 0; place < letters; place++) {
      line.append((char) x.sign(entry, place));
    }
    line.append(' ').append(x.entry(entry, 1)).append(" as ").append(x.as(entry, kind));
    line.append(" age ").append(x.entry(entry, 2));
    line.append(" born ").append(x.entry(entry, 4)).append('-').append(x.entry(entry, 5));
    line.append(" life ").append(x.entry(entry, 6)).append(" doubtful ").append(x.entry(entry, 7));
    line.append(" fits ").append(x.fits(entry)).append(" nearest ").append(x.nearest(entry));
    if (kind != 1) {
      line.append(" mate ").append(x.mate(entry));
    }
    lines.add(line.toString());
  }

  private void two(int one, int other) {
    lines.add(one + "+" + other + ": distance " + x.two(one, other, 0) + " likeness "
        + x.two(one, other, 1) + " why " + x.two(one, other, 2) + " worth "
        + x.two(one, other, 3) + " years " + x.two(one, other, 4));
  }

  private void lives() {
    lines.add("lives " + x.lives(0) + " pairs " + x.lives(1) + " worth " + x.lives(2)
        + " doubtful " + x.lives(3) + " shaky " + x.lives(4) + " single " + x.lives(5));
  }

  private void life(int life) {
    StringBuilder line = new StringBuilder();
    line.append("life ").append(life).append(": birth ").append(x.life(life, 0));
    line.append(" burial ").append(x.life(life, 1)).append(" weddings");
    int weddings = x.life(life, 2);
    for (int place = 0; place < weddings; place++) {
      line.append(' ').append(x.wedding(life, place));
    }
    line.append(" born ").append(x.life(life, 3)).append('-').append(x.life(life, 4));
    line.append(" shaky ").append(x.life(life, 5)).append(" entries ").append(x.life(life, 6));
    line.append(" last ").append(x.life(life, 7)).append(" worth");
    int entries = x.count(0);
    for (int entry = 0; entry < entries; entry++) {
      int worth = x.worth(entry, life);
      if (worth != LifeLinks.UNKNOWN) {
        line.append(' ').append(entry).append('=').append(worth);
      }
    }
    lines.add(line.toString());
  }

  private void count() {
    StringBuilder line = new StringBuilder("count");
    for (int what = 0; what <= 7; what++) {
      line.append(' ').append(x.count(what));
    }
    lines.add(line.toString());
  }
}
