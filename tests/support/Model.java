import java.util.ArrayList;
import java.util.HashSet;
import java.util.List;
import java.util.Set;
import java.util.regex.Matcher;
import java.util.regex.Pattern;

/** The document read a second time, in another and slower way: it works all out anew for each call. */
final class Model {
  static final int NONE = -1;
  static final int UNKNOWN = -101;
  static final int OUTSIDE = -102;
  static final int STATE = -103;
  static final int FULL = -104;

  private static final String[] GROUPS =
      {"bp", "ckq", "dt", "fvw", "gj", "iy", "mn", "sxz", "aeou"};
  private static final String YEAR = "1[678][0-9][0-9]";
  private static final String ENTRY = "(b[a-z]{1,8}:" + YEAR + "|w[a-z]{1,8}:" + YEAR
      + "(\\.(1[4-9]|[2-9][0-9]))?|d[a-z]{1,8}:" + YEAR + "(\\.(0|[1-9][0-9]?))?)";
  private static final Pattern TEXT = Pattern.compile(ENTRY + "(;" + ENTRY + ")*");

  private static final class Row {
    int kind;
    String name;
    int year;
    int age = NONE;
    final Set<Row> parted = new HashSet<>();
  }

  private static final class OneLife {
    final List<Row> rows = new ArrayList<>();
    Row birth;
    Row burial;

    List<Row> weddings() {
      List<Row> weddings = new ArrayList<>(rows);
      weddings.removeIf(row -> row.kind != 1);
      return weddings;
    }
  }

  private final StringBuilder page = new StringBuilder();
  private final List<Row> rows = new ArrayList<>();
  private int least = 600;
  private int slack = 1;
  private int doubt = 40;
  private int reads;
  private int struck;

  private List<Row> bestBurials;
  private int bestSum;
  private List<OneLife> lives;
  private int byMatch;

  // ---- texts

  int letter(int code) {
    if (code < 32 || code > 126) {
      return OUTSIDE;
    }
    if (page.length() == 60) {
      return FULL;
    }
    page.append((char) code);
    return page.length();
  }

  int blank() {
    int had = page.length();
    page.setLength(0);
    return had;
  }

  int fault() {
    for (int end = 1; end <= page.length(); end++) {
      Matcher matcher = TEXT.matcher(page.substring(0, end));
      if (!matcher.matches() && !matcher.hitEnd()) {
        return end - 1;
      }
    }
    return page.length();
  }

  int enter() {
    if (!TEXT.matcher(page).matches()) {
      return STATE;
    }
    List<Row> come = new ArrayList<>();
    for (String part : page.toString().split(";")) {
      Row row = new Row();
      row.kind = "bwd".indexOf(part.charAt(0));
      row.name = part.substring(1, part.indexOf(':'));
      row.year = Integer.parseInt(part.substring(part.indexOf(':') + 1, part.indexOf(':') + 5));
      if (part.indexOf('.') >= 0) {
        row.age = Integer.parseInt(part.substring(part.indexOf('.') + 1));
      }
      come.add(row);
    }
    List<Row> all = new ArrayList<>(rows);
    all.addAll(come);
    for (int kind = 0; kind < 3; kind++) {
      if (ofKind(all, kind).size() > 7) {
        return FULL;
      }
    }
    if (all.size() > 18) {
      return FULL;
    }
    rows.addAll(come);
    page.setLength(0);
    reads++;
    changed();
    return come.size();
  }

  // ---- entries

  int entry(int entry, int what) {
    if (!has(entry)) {
      return UNKNOWN;
    }
    Row row = rows.get(entry);
    switch (what) {
      case 0: return row.kind;
      case 1: return row.year;
      case 2: return row.age;
      case 3: return row.name.length();
      case 4: return born(row)[0];
      case 5: return born(row)[1];
      case 6: return lifeOf(row);
      case 7: return lifeOf(row) == NONE ? 1 : 0;
      default: return OUTSIDE;
    }
  }

  int sign(int entry, int place) {
    if (!has(entry) || place < 0 || place >= rows.get(entry).name.length()) {
      return UNKNOWN;
    }
    return rows.get(entry).name.charAt(place);
  }

  int as(int entry, int kind) {
    if (!has(entry)) {
      return UNKNOWN;
    }
    if (kind < 0 || kind > 2) {
      return OUTSIDE;
    }
    return rows.get(entry).kind == kind ? rows.get(entry).year : NONE;
  }

  int strike(int entry) {
    if (!has(entry)) {
      return UNKNOWN;
    }
    Row gone = rows.remove(entry);
    for (Row row : rows) {
      row.parted.remove(gone);
    }
    struck++;
    changed();
    return rows.size();
  }

  int age(int entry, int age) {
    if (!has(entry)) {
      return UNKNOWN;
    }
    Row row = rows.get(entry);
    int[] lowest = {100, 14, 0};
    if (age != NONE && (age < lowest[row.kind] || age > 99)) {
      return OUTSIDE;
    }
    int had = row.age;
    row.age = age;
    changed();
    return had;
  }

  int part(int one, int other) {
    if (!has(one) || !has(other) || one == other) {
      return UNKNOWN;
    }
    Row row = rows.get(one);
    Row next = rows.get(other);
    changed();
    if (row.parted.remove(next)) {
      next.parted.remove(row);
      return 0;
    }
    row.parted.add(next);
    next.parted.add(row);
    return 1;
  }

  int bound(int what, int v) {
    int[] now = {least, slack, doubt};
    int[] most = {1000, 5, 500};
    if (what < 0 || what > 2 || v < 0 || v > most[what]) {
      return OUTSIDE;
    }
    int was = now[what];
    now[what] = v;
    least = now[0];
    slack = now[1];
    doubt = now[2];
    changed();
    return was;
  }

  // ---- two entries

  int two(int one, int other, int what) {
    if (!has(one) || !has(other) || one == other) {
      return UNKNOWN;
    }
    Row row = rows.get(one);
    Row next = rows.get(other);
    switch (what) {
      case 0: return distance(row.name, next.name);
      case 1: return likeness(row, next);
      case 2: return why(row, next);
      case 3: return why(row, next) == 0 ? worth(row, next) : NONE;
      case 4: return years(row, next);
      default: return OUTSIDE;
    }
  }

  int fits(int entry) {
    if (!has(entry)) {
      return UNKNOWN;
    }
    int fitting = 0;
    for (int other = 0; other < rows.size(); other++) {
      fitting += other != entry && two(entry, other, 2) == 0 ? 1 : 0;
    }
    return fitting;
  }

  int nearest(int entry) {
    if (!has(entry)) {
      return UNKNOWN;
    }
    int best = NONE;
    int most = NONE;
    for (int other = 0; other < rows.size(); other++) {
      if (other != entry && two(entry, other, 3) > most) {
        most = two(entry, other, 3);
        best = other;
      }
    }
    return best;
  }

  // ---- lives

  int lives(int what) {
    settle();
    int[] told = {lives.size(), 0, bestSum, 0, 0, 0};
    for (Row row : rows) {
      told[3] += lifeOf(row) == NONE ? 1 : 0;
    }
    for (OneLife life : lives) {
      told[1] += life.birth != null && life.burial != null ? 1 : 0;
      told[4] += isShaky(life) ? 1 : 0;
      told[5] += life.rows.size() == 1 ? 1 : 0;
    }
    return what < 0 || what > 5 ? OUTSIDE : told[what];
  }

  int life(int number, int what) {
    settle();
    if (number < 0 || number >= lives.size()) {
      return UNKNOWN;
    }
    OneLife life = lives.get(number);
    int first = Integer.MIN_VALUE;
    int last = Integer.MAX_VALUE;
    int lastYear = 0;
    for (Row row : life.rows) {
      first = Math.max(first, born(row)[0]);
      last = Math.min(last, born(row)[1]);
      lastYear = Math.max(lastYear, row.year);
    }
    switch (what) {
      case 0: return rows.indexOf(life.birth);
      case 1: return rows.indexOf(life.burial);
      case 2: return life.weddings().size();
      case 3: return first <= last ? first : NONE;
      case 4: return first <= last ? last : NONE;
      case 5: return isShaky(life) ? 1 : 0;
      case 6: return life.rows.size();
      case 7: return lastYear;
      default: return OUTSIDE;
    }
  }

  int wedding(int number, int place) {
    settle();
    if (number < 0 || number >= lives.size()) {
      return UNKNOWN;
    }
    List<Row> weddings = lives.get(number).weddings();
    return place < 0 || place >= weddings.size() ? UNKNOWN : rows.indexOf(weddings.get(place));
  }

  int worth(int entry, int number) {
    settle();
    if (!has(entry) || rows.get(entry).kind != 1 || number < 0 || number >= byMatch) {
      return UNKNOWN;
    }
    OneLife bare = new OneLife();
    bare.rows.addAll(lives.get(number).rows);
    bare.rows.removeIf(row -> row.kind == 1);
    return worthAt(rows.get(entry), bare);
  }

  int mate(int entry) {
    settle();
    if (!has(entry) || rows.get(entry).kind == 1) {
      return UNKNOWN;
    }
    for (OneLife life : lives) {
      if (life.rows.contains(rows.get(entry))) {
        return rows.indexOf(rows.get(entry) == life.birth ? life.burial : life.birth);
      }
    }
    return NONE;
  }

  // ---- what is told of all

  int count(int what) {
    int ends = 0;
    for (Row row : rows) {
      ends += row.parted.size();
    }
    int[] told = {rows.size(), ofKind(rows, 0).size(), ofKind(rows, 1).size(),
        ofKind(rows, 2).size(), page.length(), reads, struck, ends / 2};
    return what < 0 || what > 7 ? OUTSIDE : told[what];
  }

  long digest() {
    List<Integer> numbers = new ArrayList<>();
    for (int entry = 0; entry < rows.size(); entry++) {
      for (int what = 0; what <= 7; what++) {
        numbers.add(entry(entry, what));
      }
      for (char sign : rows.get(entry).name.toCharArray()) {
        numbers.add((int) sign);
      }
      numbers.add(fits(entry));
      numbers.add(nearest(entry));
    }
    for (int one = 0; one < rows.size(); one++) {
      for (int other = one + 1; other < rows.size(); other++) {
        for (int what = 0; what <= 4; what++) {
          numbers.add(two(one, other, what));
        }
      }
    }
    for (int what = 0; what <= 5; what++) {
      numbers.add(lives(what));
    }
    for (int life = 0; life < lives.size(); life++) {
      for (int what = 0; what <= 7; what++) {
        numbers.add(life(life, what));
      }
      for (int place = 0; place < life(life, 2); place++) {
        numbers.add(wedding(life, place));
      }
    }
    for (int place = 0; place < page.length(); place++) {
      numbers.add((int) page.charAt(place));
    }
    for (int what = 0; what <= 7; what++) {
      numbers.add(count(what));
    }
    long h = 1567;
    for (int number : numbers) {
      h = 31 * h + number;
    }
    return h;
  }

  // ---- what the terms say

  private boolean has(int entry) {
    return entry >= 0 && entry < rows.size();
  }

  private void changed() {
    lives = null;
  }

  private static List<Row> ofKind(List<Row> from, int kind) {
    List<Row> some = new ArrayList<>(from);
    some.removeIf(row -> row.kind != kind);
    return some;
  }

  private static int cost(char one, char other) {
    if (one == other) {
      return 0;
    }
    for (String group : GROUPS) {
      if (group.indexOf(one) >= 0 && group.indexOf(other) >= 0) {
        return 1;
      }
    }
    return 2;
  }

  /** Of all ways to lay two names beside one another that which costs least, tried from behind. */
  private static int distance(String one, String other) {
    int[][] rest = new int[one.length() + 1][other.length() + 1];
    for (int i = one.length(); i >= 0; i--) {
      for (int j = other.length(); j >= 0; j--) {
        if (i == one.length() || j == other.length()) {
          rest[i][j] = 2 * (one.length() - i + other.length() - j);
        } else {
          int made = cost(one.charAt(i), other.charAt(j)) + rest[i + 1][j + 1];
          rest[i][j] = Math.min(made, 2 + Math.min(rest[i + 1][j], rest[i][j + 1]));
        }
      }
    }
    return rest[0][0];
  }

  private static int likeness(Row one, Row other) {
    int longer = Math.max(one.name.length(), other.name.length());
    return 1000 - 1000 * distance(one.name, other.name) / (2 * longer);
  }

  private int[] born(Row row) {
    if (row.age != NONE) {
      return new int[] {row.year - row.age - 1 - slack, row.year - row.age + slack};
    }
    int[] less = {0, 60, 100};
    int[] lessAtLast = {0, 14, 0};
    return new int[] {row.year - less[row.kind], row.year - lessAtLast[row.kind]};
  }

  private int years(Row one, Row other) {
    int years = 0;
    for (int year = born(one)[0]; year <= born(one)[1]; year++) {
      years += year >= born(other)[0] && year <= born(other)[1] ? 1 : 0;
    }
    return years;
  }

  private int why(Row one, Row other) {
    if (one.kind == other.kind && one.kind != 1) {
      return one.kind == 0 ? 1 : 2;
    }
    if (one.parted.contains(other)) {
      return 3;
    }
    Row earlier = one.year <= other.year ? one : other;
    Row later = earlier == one ? other : one;
    if (earlier.year < later.year && (earlier.kind == 2 || later.kind == 0)) {
      return 4;
    }
    if (years(one, other) == 0) {
      return 5;
    }
    return likeness(one, other) < least ? 6 : 0;
  }

  private int worth(Row one, Row other) {
    return likeness(one, other) + 200 / years(one, other);
  }

  private void settle() {
    if (lives != null) {
      return;
    }
    bestBurials = null;
    bestSum = NONE;
    List<Row> births = ofKind(rows, 0);
    List<Row> burials = ofKind(rows, 2);
    tryMatches(births, burials, new ArrayList<>(), 0);
    lives = new ArrayList<>();
    for (int k = 0; k < births.size(); k++) {
      OneLife life = new OneLife();
      life.birth = births.get(k);
      life.burial = bestBurials.get(k);
      life.rows.add(life.birth);
      if (life.burial != null) {
        life.rows.add(life.burial);
      }
      lives.add(life);
    }
    for (Row burial : burials) {
      if (!bestBurials.contains(burial)) {
        OneLife life = new OneLife();
        life.burial = burial;
        life.rows.add(burial);
        lives.add(life);
      }
    }
    byMatch = lives.size();
    for (Row wedding : ofKind(rows, 1)) {
      lay(wedding);
    }
  }

  /** Tries every match, the first one of several that are worth as much ahead of the others. */
  private void tryMatches(List<Row> births, List<Row> burials, List<Row> given, int sum) {
    if (given.size() == births.size()) {
      if (sum > bestSum) {
        bestSum = sum;
        bestBurials = new ArrayList<>(given);
      }
      return;
    }
    Row birth = births.get(given.size());
    for (Row burial : burials) {
      if (!given.contains(burial) && why(birth, burial) == 0) {
        given.add(burial);
        tryMatches(births, burials, given, sum + worth(birth, burial));
        given.remove(given.size() - 1);
      }
    }
    given.add(null);
    tryMatches(births, burials, given, sum);
    given.remove(given.size() - 1);
  }

  private int worthAt(Row wedding, OneLife life) {
    List<Row> heads = new ArrayList<>(life.rows);
    heads.removeIf(row -> row.kind == 1);
    for (Row row : life.rows) {
      if (why(wedding, row) != 0) {
        return NONE;
      }
    }
    List<Row> counted = heads.isEmpty() ? life.rows : heads;
    int sum = 0;
    for (Row row : counted) {
      sum += worth(wedding, row);
    }
    return sum / counted.size();
  }

  private void lay(Row wedding) {
    OneLife best = null;
    int most = NONE;
    int near = 0;
    for (OneLife life : lives) {
      int worth = life.weddings().size() < 3 ? worthAt(wedding, life) : NONE;
      if (worth > most) {
        most = worth;
        best = life;
      }
    }
    for (OneLife life : lives) {
      int worth = life.weddings().size() < 3 ? worthAt(wedding, life) : NONE;
      near += worth != NONE && life != best && most - worth <= doubt ? 1 : 0;
    }
    if (best == null) {
      best = new OneLife();
      lives.add(best);
    }
    if (near == 0) {
      best.rows.add(wedding);
    }
  }

  private int lifeOf(Row row) {
    settle();
    for (int number = 0; number < lives.size(); number++) {
      if (lives.get(number).rows.contains(row)) {
        return number;
      }
    }
    return NONE;
  }

  private boolean isShaky(OneLife life) {
    if (life.birth == null || life.burial == null) {
      return false;
    }
    int own = worth(life.birth, life.burial);
    for (Row row : rows) {
      Row other = row.kind == 0 ? life.burial : row.kind == 2 ? life.birth : null;
      if (other != null && row != life.birth && row != life.burial && why(other, row) == 0
          && own - worth(other, row) <= doubt) {
        return true;
      }
    }
    return false;
  }
}
