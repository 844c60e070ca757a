/** Registers joined to lives: what each call promises stands in ../shared/DOC.md. */
public final class LifeLinks {
  public static final int NONE = -1, UNKNOWN = -101, OUTSIDE = -102, STATE = -103, FULL = -104;

  private static final int BIRTH = 0;
  private static final int WEDDING = 1;
  private static final int BURIAL = 2;
  private static final int KINDS = 3;

  private static final int MOST_ENTRIES = 18;
  private static final int MOST_OF_KIND = 7;
  private static final int MOST_LETTERS = 60;
  private static final int LONGEST_NAME = 8;
  private static final int MOST_WEDDINGS = 3;
  private static final int OLDEST = 99;

  private static final int MOST_LEAST = 1000;
  private static final int MOST_SLACK = 5;
  private static final int MOST_DOUBT = 500;

  private static final int DIGEST_START = 1567;

  private final Page page = new Page();
  private final Reader reader = new Reader();
  private final Names names = new Names();
  private final Register register = new Register();
  private final Pairs pairs = new Pairs();
  private final Match match = new Match();
  private final Lives lives = new Lives();
  private int least = 600;
  private int slack = 1;
  private int doubt = 40;
  private int textsRead;
  // What follows from the ENTRIES is worked out again only when it is asked for.
  private boolean stale = true;

  public LifeLinks() {
  }

  // ---- texts

  public int letter(int code) {
    if (code < ' ' || code > '~') {
      return OUTSIDE;
    }
    if (page.size >= MOST_LETTERS) {
      return FULL;
    }
    page.put(code);
    return page.size;
  }

  public int blank() {
    int had = page.size;
    page.size = 0;
    return had;
  }

  public int fault() {
    reader.start();
    for (int place = 0; place < page.size; place++) {
      if (!reader.takes(page.codes[place])) {
        return place;
      }
    }
    return page.size;
  }

  public int enter() {
    if (fault() < page.size || !reader.isWhole()) {
      return STATE;
    }
    if (!register.hasRoomFor(reader)) {
      return FULL;
    }
    int came = reader.entries;
    addEntriesOfPage();
    page.size = 0;
    textsRead++;
    stale = true;
    return came;
  }

  // ---- entries

  public int entry(int entry, int what) {
    if (!register.has(entry)) {
      return UNKNOWN;
    }
    settle();
    return tellEntry(entry, what);
  }

  public int sign(int entry, int place) {
    if (!register.has(entry)) {
      return UNKNOWN;
    }
    Entry row = register.rows[entry];
    return place < 0 || place >= row.length ? UNKNOWN : row.name[place];
  }

  public int as(int entry, int kind) {
    if (!register.has(entry)) {
      return UNKNOWN;
    }
    if (kind < 0 || kind >= KINDS) {
      return OUTSIDE;
    }
    Entry row = register.rows[entry];
    return row.kind == kind ? row.year : NONE;
  }

  public int strike(int entry) {
    if (!register.has(entry)) {
      return UNKNOWN;
    }
    register.remove(entry);
    stale = true;
    return register.size;
  }

  public int age(int entry, int age) {
    if (!register.has(entry)) {
      return UNKNOWN;
    }
    Entry row = register.rows[entry];
    if (age != NONE && !mayHaveAge(row.kind, age)) {
      return OUTSIDE;
    }
    int had = row.age;
    row.age = age;
    stale = true;
    return had;
  }

  public int part(int one, int other) {
    if (!areTwo(one, other)) {
      return UNKNOWN;
    }
    stale = true;
    return register.turnParted(register.rows[one], register.rows[other]) ? 1 : 0;
  }

  public int bound(int what, int v) {
    if (what < 0 || what > 2) {
      return OUTSIDE;
    }
    int most = what == 0 ? MOST_LEAST : what == 1 ? MOST_SLACK : MOST_DOUBT;
    if (v < 0 || v > most) {
      return OUTSIDE;
    }
    int was = what == 0 ? least : what == 1 ? slack : doubt;
    if (what == 0) {
      least = v;
    } else if (what == 1) {
      slack = v;
    } else {
      doubt = v;
    }
    stale = true;
    return was;
  }

  // ---- two entries

  public int two(int one, int other, int what) {
    if (!areTwo(one, other)) {
      return UNKNOWN;
    }
    settle();
    return tellTwo(one, other, what);
  }

  public int fits(int entry) {
    if (!register.has(entry)) {
      return UNKNOWN;
    }
    settle();
    return pairs.countFitting(entry);
  }

  public int nearest(int entry) {
    if (!register.has(entry)) {
      return UNKNOWN;
    }
    settle();
    return pairs.bestFor(entry);
  }

  // ---- lives

  public int lives(int what) {
    settle();
    return tellLives(what);
  }

  public int life(int life, int what) {
    settle();
    return lives.has(life) ? tellLife(lives.all[life], what) : UNKNOWN;
  }

  public int wedding(int life, int place) {
    settle();
    if (!lives.has(life)) {
      return UNKNOWN;
    }
    Life told = lives.all[life];
    return place < 0 || place >= told.weddings() ? UNKNOWN : told.members[told.heads + place];
  }

  public int worth(int entry, int life) {
    if (!register.has(entry) || register.rows[entry].kind != WEDDING) {
      return UNKNOWN;
    }
    settle();
    if (!lives.has(life) || life >= lives.byMatch) {
      return UNKNOWN;
    }
    Life at = lives.all[life];
    return pairs.fitFirst(entry, at.members, at.heads)
        ? pairs.meanWorth(entry, at.members, at.heads) : NONE;
  }

  public int mate(int entry) {
    if (!register.has(entry) || register.rows[entry].kind == WEDDING) {
      return UNKNOWN;
    }
    settle();
    return match.mates[entry];
  }

  // ---- what is told of all

  public int count(int what) {
    switch (what) {
      case 0: return register.size;
      case 1: return register.ofKind[BIRTH];
      case 2: return register.ofKind[WEDDING];
      case 3: return register.ofKind[BURIAL];
      case 4: return page.size;
      case 5: return textsRead;
      case 6: return register.struck;
      case 7: return register.countParted();
      default: return OUTSIDE;
    }
  }

  public long digest() {
    settle();
    long h = mixEntries(DIGEST_START);
    h = mixTwos(h);
    h = mixLives(h);
    for (int place = 0; place < page.size; place++) {
      h = mixed(h, page.codes[place]);
    }
    for (int what = 0; what <= 7; what++) {
      h = mixed(h, count(what));
    }
    return h;
  }

  // ---- helpers

  private static int leastAge(int kind) {
    return kind == WEDDING ? 14 : 0;
  }

  private static boolean mayHaveAge(int kind, int age) {
    return kind != BIRTH && age >= leastAge(kind) && age <= OLDEST;
  }

  private boolean areTwo(int one, int other) {
    return register.has(one) && register.has(other) && one != other;
  }

  private void addEntriesOfPage() {
    reader.start();
    for (int place = 0; place < page.size; place++) {
      // The reader forgets an entry when it takes the ";" behind it.
      if (page.codes[place] == ';') {
        register.add(page, reader, names);
      }
      reader.takes(page.codes[place]);
    }
    register.add(page, reader, names);
  }

  private void settle() {
    if (!stale) {
      return;
    }
    register.settleBorn(slack);
    pairs.settle(register, least);
    match.settle(register, pairs);
    lives.settle(register, pairs, match, doubt);
    stale = false;
  }

  private int tellEntry(int number, int what) {
    Entry row = register.rows[number];
    switch (what) {
      case 0: return row.kind;
      case 1: return row.year;
      case 2: return row.age;
      case 3: return row.length;
      case 4: return row.bornFirst;
      case 5: return row.bornLast;
      case 6: return lives.lifeOf[number];
      case 7: return lives.lifeOf[number] == NONE ? 1 : 0;
      default: return OUTSIDE;
    }
  }

  private int tellTwo(int one, int other, int what) {
    Entry row = register.rows[one];
    Entry next = register.rows[other];
    switch (what) {
      case 0: return row.distanceTo(next);
      case 1: return row.likenessTo(next);
      case 2: return pairs.why[one][other];
      case 3: return pairs.worth[one][other];
      case 4: return row.yearsWith(next);
      default: return OUTSIDE;
    }
  }

  private int tellLives(int what) {
    switch (what) {
      case 0: return lives.size;
      case 1: return match.pairs;
      case 2: return match.worth;
      case 3: return lives.doubtful;
      case 4: return lives.countShaky();
      case 5: return lives.countSingle();
      default: return OUTSIDE;
    }
  }

  private static int tellLife(Life told, int what) {
    switch (what) {
      case 0: return told.birth;
      case 1: return told.burial;
      case 2: return told.weddings();
      case 3: return told.isBorn() ? told.bornFirst : NONE;
      case 4: return told.isBorn() ? told.bornLast : NONE;
      case 5: return told.shaky ? 1 : 0;
      case 6: return told.size;
      case 7: return told.lastYear;
      default: return OUTSIDE;
    }
  }

  private static long mixed(long h, long number) {
    return 31 * h + number;
  }

  private long mixEntries(long start) {
    long h = start;
    for (int entry = 0; entry < register.size; entry++) {
      for (int what = 0; what <= 7; what++) {
        h = mixed(h, tellEntry(entry, what));
      }
      Entry row = register.rows[entry];
      for (int place = 0; place < row.length; place++) {
        h = mixed(h, row.name[place]);
      }
      h = mixed(h, pairs.countFitting(entry));
      h = mixed(h, pairs.bestFor(entry));
    }
    return h;
  }

  private long mixTwos(long start) {
    long h = start;
    for (int one = 0; one < register.size; one++) {
      for (int other = one + 1; other < register.size; other++) {
        for (int what = 0; what <= 4; what++) {
          h = mixed(h, tellTwo(one, other, what));
        }
      }
    }
    return h;
  }

  private long mixLives(long start) {
    long h = start;
    for (int what = 0; what <= 5; what++) {
      h = mixed(h, tellLives(what));
    }
    for (int life = 0; life < lives.size; life++) {
      Life told = lives.all[life];
      for (int what = 0; what <= 7; what++) {
        h = mixed(h, tellLife(told, what));
      }
      for (int place = told.heads; place < told.size; place++) {
        h = mixed(h, told.members[place]);
      }
    }
    return h;
  }

  /** THE PAGE: the letters of a text that is being written. */
  private static final class Page {
    final int[] codes = new int[MOST_LETTERS];
    int size;

    void put(int code) {
      if (size < MOST_LETTERS) {
        codes[size] = code;
        size++;
      }
    }
  }

  /** Follows a text of ENTRIES letter by letter, and holds what it read of the entry it is in. */
  private static final class Reader {
    private static final int AT_KIND = 0;
    private static final int IN_NAME = 1;
    private static final int IN_YEAR = 2;
    private static final int BEHIND_YEAR = 3;
    private static final int IN_AGE = 4;
    private static final int YEAR_FIGURES = 4;

    final int[] ofKind = new int[KINDS];
    int entries;
    int kind;
    int nameStart;
    int nameLength;
    int year;
    int age;
    private int state;
    private int taken;
    private int figures;

    void start() {
      for (int k = 0; k < KINDS; k++) {
        ofKind[k] = 0;
      }
      entries = 0;
      taken = 0;
      startEntry();
    }

    /** Whether some text goes on with this letter here; if none does, nothing is taken. */
    boolean takes(int code) {
      boolean good;
      switch (state) {
        case AT_KIND: good = takesKind(code); break;
        case IN_NAME: good = takesInName(code); break;
        case IN_YEAR: good = takesFigureOfYear(code); break;
        case BEHIND_YEAR: good = takesBehindYear(code); break;
        default: good = takesInAge(code); break;
      }
      if (good) {
        taken++;
      }
      return good;
    }

    /** Whether a text can end here. */
    boolean isWhole() {
      return state == BEHIND_YEAR || state == IN_AGE && ageIsWhole();
    }

    private void startEntry() {
      state = AT_KIND;
      nameLength = 0;
      year = 0;
      age = NONE;
      figures = 0;
    }

    private boolean takesKind(int code) {
      if (code != 'b' && code != 'w' && code != 'd') {
        return false;
      }
      kind = code == 'b' ? BIRTH : code == 'w' ? WEDDING : BURIAL;
      ofKind[kind]++;
      entries++;
      nameStart = taken + 1;
      state = IN_NAME;
      return true;
    }

    private boolean takesInName(int code) {
      if (code == ':' && nameLength > 0) {
        state = IN_YEAR;
        return true;
      }
      if (code < 'a' || code > 'z' || nameLength == LONGEST_NAME) {
        return false;
      }
      nameLength++;
      return true;
    }

    private boolean takesFigureOfYear(int code) {
      // The years are 1600 to 1899: only the first two figures are bound.
      int low = figures == 0 ? '1' : figures == 1 ? '6' : '0';
      int high = figures == 0 ? '1' : figures == 1 ? '8' : '9';
      if (code < low || code > high) {
        return false;
      }
      year = year * 10 + (code - '0');
      figures++;
      if (figures == YEAR_FIGURES) {
        state = BEHIND_YEAR;
      }
      return true;
    }

    private boolean takesBehindYear(int code) {
      if (code == ';') {
        startEntry();
        return true;
      }
      if (code != '.' || kind == BIRTH) {
        return false;
      }
      age = 0;
      figures = 0;
      state = IN_AGE;
      return true;
    }

    private boolean takesInAge(int code) {
      if (code == ';') {
        if (!ageIsWhole()) {
          return false;
        }
        startEntry();
        return true;
      }
      if (code < '0' || code > '9' || !ageGoesOnWith(code - '0')) {
        return false;
      }
      age = age * 10 + (code - '0');
      figures++;
      return true;
    }

    private boolean ageGoesOnWith(int figure) {
      if (figures == 0) {
        return figure > 0 || leastAge(kind) == 0;
      }
      // A 0 ahead of another figure is in no text.
      return figures == 1 && age > 0 && mayHaveAge(kind, age * 10 + figure);
    }

    private boolean ageIsWhole() {
      return figures > 0 && mayHaveAge(kind, age);
    }
  }

  /** What it costs to change one NAME into another one. */
  private static final class Names {
    // For each letter from "a" the first letter of its group.
    private static final String SOUNDS = "abcdafghigclmmabcrsdaffsis";
    private static final int WHOLE_COST = 2;
    private static final int LIKE_SOUND_COST = 1;

    private int[] above = new int[LONGEST_NAME + 1];
    private int[] row = new int[LONGEST_NAME + 1];

    int distance(Entry one, Entry other) {
      for (int j = 0; j <= other.length; j++) {
        row[j] = WHOLE_COST * j;
      }
      for (int i = 1; i <= one.length; i++) {
        int[] spare = above;
        above = row;
        row = spare;
        row[0] = WHOLE_COST * i;
        for (int j = 1; j <= other.length; j++) {
          int made = above[j - 1] + costOfMaking(one.name[i - 1], other.name[j - 1]);
          row[j] = Math.min(made, WHOLE_COST + Math.min(above[j], row[j - 1]));
        }
      }
      return row[other.length];
    }

    private static int costOfMaking(int one, int other) {
      if (one == other) {
        return 0;
      }
      return soundOf(one) == soundOf(other) ? LIKE_SOUND_COST : WHOLE_COST;
    }

    private static int soundOf(int code) {
      int place = code - 'a';
      return place < 0 || place >= SOUNDS.length() ? code : SOUNDS.charAt(place);
    }
  }

  /** One row of the register; its slot stays, while the number that it is told by may change. */
  private static final class Entry {
    final int slot;
    final int[] name = new int[LONGEST_NAME];
    final int[] distances = new int[MOST_ENTRIES];
    int length;
    int kind;
    int year;
    int age;
    int partedSlots;
    int bornFirst;
    int bornLast;

    Entry(int slot) {
      this.slot = slot;
    }

    void read(Page page, Reader reader) {
      kind = reader.kind;
      year = reader.year;
      age = reader.age;
      partedSlots = 0;
      length = 0;
      for (int k = 0; k < reader.nameLength && reader.nameStart + k < page.size; k++) {
        name[k] = page.codes[reader.nameStart + k];
        length++;
      }
    }

    void settleBorn(int slack) {
      if (kind == BIRTH) {
        bornFirst = year;
        bornLast = year;
      } else if (age != NONE) {
        bornFirst = year - age - 1 - slack;
        bornLast = year - age + slack;
      } else if (kind == WEDDING) {
        bornFirst = year - 60;
        bornLast = year - 14;
      } else {
        bornFirst = year - 100;
        bornLast = year;
      }
    }

    boolean isPartedFrom(Entry other) {
      return (partedSlots & 1 << other.slot) != 0;
    }

    int distanceTo(Entry other) {
      return distances[other.slot];
    }

    int likenessTo(Entry other) {
      int longer = Math.max(1, Math.max(length, other.length));
      return 1000 - 1000 * distanceTo(other) / (2 * longer);
    }

    int yearsWith(Entry other) {
      int first = Math.max(bornFirst, other.bornFirst);
      int last = Math.min(bornLast, other.bornLast);
      return Math.max(0, last - first + 1);
    }

    boolean isInWrongOrderWith(Entry other) {
      return kind == BIRTH && year > other.year || kind == BURIAL && year < other.year;
    }
  }

  /** The ENTRIES by number, and which of them are PARTED. */
  private static final class Register {
    // Rows from size on are spare ones, for entries to come.
    final Entry[] rows = new Entry[MOST_ENTRIES];
    final int[] ofKind = new int[KINDS];
    int size;
    int struck;

    Register() {
      for (int slot = 0; slot < MOST_ENTRIES; slot++) {
        rows[slot] = new Entry(slot);
      }
    }

    boolean has(int number) {
      return number >= 0 && number < size;
    }

    boolean hasRoomFor(Reader reader) {
      boolean room = size + reader.entries <= MOST_ENTRIES;
      for (int kind = 0; kind < KINDS; kind++) {
        room = room && ofKind[kind] + reader.ofKind[kind] <= MOST_OF_KIND;
      }
      return room;
    }

    void add(Page page, Reader reader, Names names) {
      if (size >= MOST_ENTRIES) {
        return;
      }
      Entry added = rows[size];
      added.read(page, reader);
      for (int number = 0; number < size; number++) {
        Entry other = rows[number];
        int distance = names.distance(added, other);
        added.distances[other.slot] = distance;
        other.distances[added.slot] = distance;
      }
      ofKind[added.kind]++;
      size++;
    }

    void remove(int number) {
      Entry gone = rows[number];
      for (int behind = number + 1; behind < size; behind++) {
        rows[behind - 1] = rows[behind];
      }
      size--;
      rows[size] = gone;
      ofKind[gone.kind]--;
      struck++;
      for (int left = 0; left < size; left++) {
        rows[left].partedSlots &= ~(1 << gone.slot);
      }
    }

    /** Whether the two are PARTED now. */
    boolean turnParted(Entry one, Entry other) {
      one.partedSlots ^= 1 << other.slot;
      other.partedSlots ^= 1 << one.slot;
      return one.isPartedFrom(other);
    }

    int countParted() {
      int ends = 0;
      for (int number = 0; number < size; number++) {
        ends += Integer.bitCount(rows[number].partedSlots);
      }
      return ends / 2;
    }

    void settleBorn(int slack) {
      for (int number = 0; number < size; number++) {
        rows[number].settleBorn(slack);
      }
    }
  }

  /** WHY and WORTH of each two ENTRIES, by their numbers. */
  private static final class Pairs {
    private static final int BONUS = 200;

    final int[][] why = new int[MOST_ENTRIES][MOST_ENTRIES];
    final int[][] worth = new int[MOST_ENTRIES][MOST_ENTRIES];
    private int size;

    void settle(Register register, int least) {
      size = register.size;
      for (int one = 0; one < size; one++) {
        // Nobody fits itself.
        worth[one][one] = NONE;
        for (int other = 0; other < one; other++) {
          settleTwo(register, one, other, least);
        }
      }
    }

    boolean fit(int one, int other) {
      return worth[one][other] != NONE;
    }

    int countFitting(int entry) {
      int fitting = 0;
      for (int other = 0; other < size; other++) {
        fitting += fit(entry, other) ? 1 : 0;
      }
      return fitting;
    }

    /** The one that fits an entry and is worth most with it, or NONE. */
    int bestFor(int entry) {
      int best = NONE;
      for (int other = 0; other < size; other++) {
        if (fit(entry, other) && (best == NONE || worth[entry][other] > worth[entry][best])) {
          best = other;
        }
      }
      return best;
    }

    /** Whether an entry fits each of the first ones of a row. */
    boolean fitFirst(int entry, int[] members, int many) {
      for (int k = 0; k < many; k++) {
        if (!fit(entry, members[k])) {
          return false;
        }
      }
      return true;
    }

    int meanWorth(int entry, int[] members, int many) {
      if (many <= 0) {
        return NONE;
      }
      int sum = 0;
      for (int k = 0; k < many; k++) {
        sum += worth[entry][members[k]];
      }
      return sum / many;
    }

    private void settleTwo(Register register, int one, int other, int least) {
      Entry row = register.rows[one];
      Entry next = register.rows[other];
      int reason = whyNot(row, next, least);
      int years = row.yearsWith(next);
      int value = reason == 0 && years > 0 ? row.likenessTo(next) + BONUS / years : NONE;
      why[one][other] = reason;
      why[other][one] = reason;
      worth[one][other] = value;
      worth[other][one] = value;
    }

    private static int whyNot(Entry one, Entry other, int least) {
      if (one.kind == BIRTH && other.kind == BIRTH) {
        return 1;
      }
      if (one.kind == BURIAL && other.kind == BURIAL) {
        return 2;
      }
      if (one.isPartedFrom(other)) {
        return 3;
      }
      if (one.isInWrongOrderWith(other) || other.isInWrongOrderWith(one)) {
        return 4;
      }
      if (one.yearsWith(other) == 0) {
        return 5;
      }
      return one.likenessTo(other) < least ? 6 : 0;
    }
  }

  /** MATCH: the pairs of BIRTHS and BURIALS that together are worth most. */
  private static final class Match {
    final int[] mates = new int[MOST_ENTRIES];
    int pairs;
    int worth;
    private final int[] births = new int[MOST_OF_KIND];
    private final int[] burials = new int[MOST_OF_KIND];
    private int birthCount;
    private int burialCount;
    // What the births from one on can be worth together, by the set of burials already given.
    private final int[][] best = new int[MOST_OF_KIND + 1][1 << MOST_OF_KIND];

    void settle(Register register, Pairs table) {
      list(register);
      for (int birth = birthCount - 1; birth >= 0; birth--) {
        for (int given = 0; given < 1 << burialCount; given++) {
          best[birth][given] = bestFrom(birth, given, table);
        }
      }
      choose(table);
    }

    private void list(Register register) {
      birthCount = 0;
      burialCount = 0;
      for (int number = 0; number < register.size; number++) {
        mates[number] = NONE;
        int kind = register.rows[number].kind;
        if (kind == BIRTH && birthCount < MOST_OF_KIND) {
          births[birthCount] = number;
          birthCount++;
        } else if (kind == BURIAL && burialCount < MOST_OF_KIND) {
          burials[burialCount] = number;
          burialCount++;
        }
      }
      for (int given = 0; given < 1 << burialCount; given++) {
        best[birthCount][given] = 0;
      }
    }

    private int bestFrom(int birth, int given, Pairs table) {
      int most = best[birth + 1][given];
      for (int burial = 0; burial < burialCount; burial++) {
        if (isFree(birth, burial, given, table)) {
          most = Math.max(most, worthWith(birth, burial, given, table));
        }
      }
      return most;
    }

    private boolean isFree(int birth, int burial, int given, Pairs table) {
      return (given & 1 << burial) == 0 && table.fit(births[birth], burials[burial]);
    }

    private int worthWith(int birth, int burial, int given, Pairs table) {
      return table.worth[births[birth]][burials[burial]] + best[birth + 1][given | 1 << burial];
    }

    private void choose(Pairs table) {
      pairs = 0;
      worth = best[0][0];
      int given = 0;
      for (int birth = 0; birth < birthCount; birth++) {
        // Of several that are worth as much, the first one has the lesser number.
        for (int burial = 0; burial < burialCount; burial++) {
          if (isFree(birth, burial, given, table)
              && worthWith(birth, burial, given, table) == best[birth][given]) {
            mates[births[birth]] = burials[burial];
            mates[burials[burial]] = births[birth];
            given |= 1 << burial;
            pairs++;
            break;
          }
        }
      }
    }
  }

  /** One LIFE: its BIRTH and its BURIAL, those that it has, ahead of its WEDDINGS. */
  private static final class Life {
    final int[] members = new int[2 + MOST_WEDDINGS];
    int size;
    int heads;
    int birth;
    int burial;
    int bornFirst;
    int bornLast;
    int lastYear;
    boolean shaky;

    void clear() {
      size = 0;
      heads = 0;
      birth = NONE;
      burial = NONE;
      shaky = false;
    }

    int weddings() {
      return size - heads;
    }

    boolean isBorn() {
      return bornFirst <= bornLast;
    }

    void add(int number, Entry row) {
      if (size >= members.length) {
        return;
      }
      bornFirst = size == 0 ? row.bornFirst : Math.max(bornFirst, row.bornFirst);
      bornLast = size == 0 ? row.bornLast : Math.min(bornLast, row.bornLast);
      lastYear = size == 0 ? row.year : Math.max(lastYear, row.year);
      members[size] = number;
      size++;
      if (row.kind == WEDDING) {
        return;
      }
      heads++;
      if (row.kind == BIRTH) {
        birth = number;
      } else {
        burial = number;
      }
    }
  }

  /** The LIVES, and which WEDDINGS are laid to them. */
  private static final class Lives {
    final Life[] all = new Life[MOST_ENTRIES];
    final int[] lifeOf = new int[MOST_ENTRIES];
    int size;
    int byMatch;
    int doubtful;
    // What the wedding that is being laid is worth at each life.
    private final int[] values = new int[MOST_ENTRIES];

    Lives() {
      for (int k = 0; k < MOST_ENTRIES; k++) {
        all[k] = new Life();
      }
    }

    void settle(Register register, Pairs pairs, Match match, int doubt) {
      size = 0;
      doubtful = 0;
      openByMatch(register, match);
      byMatch = size;
      for (int life = 0; life < byMatch; life++) {
        all[life].shaky = isShaky(all[life], register, pairs, doubt);
      }
      for (int number = 0; number < register.size; number++) {
        if (register.rows[number].kind == WEDDING) {
          layWedding(number, register, pairs, doubt);
        }
      }
    }

    boolean has(int life) {
      return life >= 0 && life < size;
    }

    int countShaky() {
      int shaky = 0;
      for (int life = 0; life < size; life++) {
        shaky += all[life].shaky ? 1 : 0;
      }
      return shaky;
    }

    int countSingle() {
      int single = 0;
      for (int life = 0; life < size; life++) {
        single += all[life].size == 1 ? 1 : 0;
      }
      return single;
    }

    private void openByMatch(Register register, Match match) {
      for (int number = 0; number < register.size; number++) {
        if (register.rows[number].kind == BIRTH) {
          int life = open();
          add(number, life, register);
          int burial = match.mates[number];
          if (burial != NONE) {
            add(burial, life, register);
          }
        }
      }
      for (int number = 0; number < register.size; number++) {
        if (register.rows[number].kind == BURIAL && match.mates[number] == NONE) {
          add(number, open(), register);
        }
      }
    }

    /** A new life behind all others; it is empty. */
    private int open() {
      if (size < MOST_ENTRIES) {
        all[size].clear();
        size++;
      }
      return size - 1;
    }

    private void add(int number, int life, Register register) {
      if (has(life)) {
        all[life].add(number, register.rows[number]);
        lifeOf[number] = life;
      }
    }

    private static boolean isShaky(Life life, Register register, Pairs pairs, int doubt) {
      if (life.birth == NONE || life.burial == NONE) {
        return false;
      }
      int worth = pairs.worth[life.birth][life.burial];
      for (int number = 0; number < register.size; number++) {
        // What is not of the other kind does not count as another one of this life's.
        int kind = register.rows[number].kind;
        int mate = kind == BURIAL ? life.birth : kind == BIRTH ? life.burial : NONE;
        boolean another = mate != NONE && number != life.birth && number != life.burial;
        if (another && pairs.fit(mate, number) && worth - pairs.worth[mate][number] <= doubt) {
          return true;
        }
      }
      return false;
    }

    private void layWedding(int number, Register register, Pairs pairs, int doubt) {
      int best = NONE;
      for (int life = 0; life < size; life++) {
        values[life] = valueAt(number, all[life], pairs);
        if (values[life] != NONE && (best == NONE || values[life] > values[best])) {
          best = life;
        }
      }
      if (best == NONE) {
        add(number, open(), register);
      } else if (hasRival(best, doubt)) {
        lifeOf[number] = NONE;
        doubtful++;
      } else {
        add(number, best, register);
      }
    }

    /** What a wedding is worth at a life, or NONE, if it cannot go there. */
    private static int valueAt(int number, Life life, Pairs pairs) {
      if (life.weddings() >= MOST_WEDDINGS || !pairs.fitFirst(number, life.members, life.size)) {
        return NONE;
      }
      return pairs.meanWorth(number, life.members, life.heads > 0 ? life.heads : life.size);
    }

    private boolean hasRival(int best, int doubt) {
      for (int life = 0; life < size; life++) {
        if (life != best && values[life] != NONE && values[best] - values[life] <= doubt) {
          return true;
        }
      }
      return false;
    }
  }
}
