/** Who plays the same part in a town of few persons, told by ties of several kinds and years. */
public final class SameParts {
  private static final int MOST_PERSONS = 7;
  private static final int FIRST_PERSONS = 4;
  private static final int TOP_MARK = 3;
  private static final int KINDS = 3;
  private static final int MOST_TIES = 60;
  private static final int MOST_BYTES = 60;
  private static final int MOST_HINTS = 6;
  private static final int LAST_YEAR = 100;
  private static final int YEAR_DIGITS = 3;
  private static final int CELLS = KINDS * MOST_PERSONS * MOST_PERSONS;
  /** How many partings seven persons have; fewer persons have fewer. */
  private static final int MOST_PARTINGS = 877;
  /** Far more than any search over orders of seven persons takes. */
  private static final int MOST_STEPS = 1000000;
  private static final long FORM_MODULUS = 1000000007L;

  private static final int SAMENESSES = 5;
  private static final int BY_MARK = 0;
  private static final int BY_SAME = 1;
  private static final int BY_TWIN = 2;
  private static final int BY_COUNT = 4;

  private static final int NOBODY = -1;
  private static final int OTHER = -2;
  private static final int STATE = -3;
  private static final int BELOW = -4;
  private static final int ROOM = -6;
  private static final int NONE = -9;
  private static final int FAULT = -20;
  private static final int SIGNED_REFUSAL = 1000000000;

  private final Town town = new Town();
  private final Told told = new Told();
  private final Tape tape = new Tape();
  private final Newcomer guest = new Newcomer();
  private final Sameness sameness = new Sameness();
  private final Turns turns = new Turns();
  private final Blocks blocks = new Blocks();
  private final Matching matching = new Matching();
  private final Parting first = new Parting();
  private final Parting second = new Parting();
  private final Parting result = new Parting();
  private final int[] refusals = new int[-ROOM + 1];
  private int now;

  public SameParts() {
    town.settle(FIRST_PERSONS);
  }

  public int persons(int n) {
    if (n < 1) {
      return refuse(BELOW);
    }
    if (n > MOST_PERSONS) {
      return refuse(ROOM);
    }
    int before = town.size;
    town.settle(n);
    told.drain();
    guest.size = 0;
    return before;
  }

  public int mark(int person, int v) {
    if (!town.lives(person)) {
      return refuse(NOBODY);
    }
    if (v < 0) {
      return refuse(BELOW);
    }
    if (v > TOP_MARK) {
      return refuse(ROOM);
    }
    int before = at(town.marks, person);
    put(town.marks, person, v);
    return before;
  }

  public int year(int y) {
    if (y < 0) {
      return refuse(BELOW);
    }
    if (y > LAST_YEAR) {
      return refuse(ROOM);
    }
    int before = now;
    now = y;
    return before;
  }

  public int feed(int n, long bytes) {
    if (n < 1) {
      return refuse(BELOW);
    }
    if (n > 8 || tape.size + n > MOST_BYTES) {
      return refuse(ROOM);
    }
    for (int i = 0; i < n; i++) {
      tape.append((int) (bytes >>> (8 * i)) & 255);
    }
    return tape.size;
  }

  public int ties() {
    boolean read = tape.readAll(town.size);
    tape.size = 0;
    if (!read) {
      return FAULT - tape.place;
    }
    if (told.size + tape.heard.size > MOST_TIES) {
      return refuse(ROOM);
    }
    told.takeAll(tape.heard);
    return told.size;
  }

  public int untie(int i) {
    if (i < 0 || i >= told.size) {
      return refuse(NOBODY);
    }
    told.drop(i);
    return 1;
  }

  public int tie(int kind, int x, int z) {
    if (!isKind(kind) || !town.lives(x) || !town.lives(z) || x == z) {
      return refuse(NOBODY);
    }
    lookAt(now);
    return town.strength(kind, x, z);
  }

  public int degree(int kind, int x, boolean from) {
    if (!isKind(kind) || !town.lives(x)) {
      return refuse(NOBODY);
    }
    lookAt(now);
    return town.tiesOf(kind, x, from);
  }

  public int parting(int parting) {
    if (!first.readNumber(parting, town.size)) {
      return refuse(NOBODY);
    }
    return first.parts;
  }

  public int judge(int parting, int kind) {
    if (!first.readNumber(parting, town.size) || !isSameness(kind)) {
      return refuse(NOBODY);
    }
    lookAt(now);
    return sameness.firstUnlike(town, first, kind);
  }

  public int coarsest(int parting, int kind) {
    if (!first.readNumber(parting, town.size) || !isSameness(kind)) {
      return refuse(NOBODY);
    }
    lookAt(now);
    sameness.refine(town, first, second, kind);
    return first.number();
  }

  public int renamings() {
    lookAt(now);
    return turns.howMany(town);
  }

  public int moves(int x, int y) {
    if (!town.lives(x) || !town.lives(y)) {
      return refuse(NOBODY);
    }
    lookAt(now);
    return turns.brings(town, 0, x, y) ? 1 : 0;
  }

  public int orbits() {
    lookAt(now);
    turns.partByOrbit(town, result);
    return result.number();
  }

  public int form() {
    lookAt(now);
    return turns.leastRow(town);
  }

  public int next(int kind, int after) {
    if (!isSameness(kind)) {
      return refuse(NOBODY);
    }
    if (after < -1) {
      return refuse(BELOW);
    }
    lookAt(now);
    first.allInOne(town.size);
    boolean more = true;
    for (int i = 0; i < MOST_PARTINGS && more; i++) {
      int number = first.number();
      if (number > after && sameness.firstUnlike(town, first, kind) == NONE) {
        return number;
      }
      more = first.forward();
    }
    return NONE;
  }

  public int all(int kind) {
    if (!isSameness(kind)) {
      return refuse(NOBODY);
    }
    lookAt(now);
    first.allInOne(town.size);
    int sum = 0;
    boolean more = true;
    for (int i = 0; i < MOST_PARTINGS && more; i++) {
      if (sameness.firstUnlike(town, first, kind) == NONE) {
        sum++;
      }
      more = first.forward();
    }
    return sum;
  }

  public int join(int a, int b) {
    if (!first.readNumber(a, town.size) || !second.readNumber(b, town.size)) {
      return refuse(NOBODY);
    }
    first.mergeBy(second);
    result.copyRenumbered(first);
    return result.number();
  }

  public int meet(int a, int b) {
    if (!first.readNumber(a, town.size) || !second.readNumber(b, town.size)) {
      return refuse(NOBODY);
    }
    result.cross(first, second);
    return result.number();
  }

  public int picture(int parting, int p, int q, int kind) {
    if (!first.readNumber(parting, town.size) || !first.has(p) || !first.has(q) || !isKind(kind)) {
      return refuse(NOBODY);
    }
    lookAt(now);
    return blocks.image(town, first, p, q, kind);
  }

  public int wrong(int parting) {
    if (!first.readNumber(parting, town.size)) {
      return refuse(NOBODY);
    }
    lookAt(now);
    return blocks.misfits(town, first);
  }

  public int least(int k, int what) {
    if (k < 1) {
      return refuse(BELOW);
    }
    if (k > town.size) {
      return refuse(ROOM);
    }
    if (what < 0 || what > 2) {
      return refuse(OTHER);
    }
    lookAt(now);
    return blocks.bestWith(town, first, k, what);
  }

  public int spoils(int parting, int what) {
    if (!first.readNumber(parting, town.size)) {
      return SIGNED_REFUSAL - refuse(NOBODY);
    }
    if (what < 0 || what > 1) {
      return SIGNED_REFUSAL - refuse(OTHER);
    }
    if (town.size < 2) {
      return what == 0 ? NONE : SIGNED_REFUSAL - refuse(STATE);
    }
    lookAt(now);
    return blocks.worstTie(town, first, what == 0);
  }

  public int newcomer(int kind, int person, boolean to) {
    if (!isKind(kind) || !town.lives(person)) {
      return refuse(NOBODY);
    }
    if (guest.size >= MOST_HINTS) {
      return refuse(ROOM);
    }
    guest.append(kind, person, to);
    return guest.size;
  }

  public int fits(int parting) {
    if (!first.readNumber(parting, town.size)) {
      return refuse(NOBODY);
    }
    lookAt(now);
    return guest.suitingParts(town, first);
  }

  public int gone() {
    int before = guest.size;
    guest.size = 0;
    return before;
  }

  public int shift(int a, int b, int kind) {
    if (!isSameness(kind)) {
      return refuse(NOBODY);
    }
    if (a < 0 || b < 0) {
      return refuse(BELOW);
    }
    if (a > LAST_YEAR || b > LAST_YEAR) {
      return refuse(ROOM);
    }
    partOfYear(a, kind, first);
    partOfYear(b, kind, second);
    return town.size - matching.keepers(first, second);
  }

  public int stays(int year, int kind) {
    if (!isSameness(kind)) {
      return refuse(NOBODY);
    }
    if (year < 0) {
      return refuse(BELOW);
    }
    if (year > LAST_YEAR) {
      return refuse(ROOM);
    }
    partOfYear(year, kind, first);
    int then = first.number();
    int end = told.nextChange(year);
    for (int i = 0; i <= LAST_YEAR && end <= LAST_YEAR; i++) {
      partOfYear(end, kind, first);
      if (first.number() != then) {
        break;
      }
      end = told.nextChange(end);
    }
    return end - year;
  }

  public int count(int what) {
    switch (what) {
      case 0:
        return town.size;
      case 1:
        return told.size;
      case 2:
        lookAt(now);
        return town.tiesInAll();
      case 3:
        return now;
      case 4:
        return tape.size;
      case 5:
        return guest.size;
      default:
        return what >= 11 && what <= 16 ? at(refusals, what - 10) : NONE;
    }
  }

  private int refuse(int number) {
    put(refusals, -number, at(refusals, -number) + 1);
    return number;
  }

  /** Every question about ties comes behind this one: shift and stays leave other years drawn. */
  private void lookAt(int year) {
    told.draw(town, year);
  }

  private void partOfYear(int year, int kind, Parting into) {
    lookAt(year);
    into.allInOne(town.size);
    sameness.refine(town, into, result, kind);
  }

  private static boolean isKind(int kind) {
    return kind >= 0 && kind < KINDS;
  }

  private static boolean isSameness(int kind) {
    return kind >= 0 && kind < SAMENESSES;
  }

  private static int at(int[] row, int i) {
    return row != null && i >= 0 && i < row.length ? row[i] : 0;
  }

  private static void put(int[] row, int i, int value) {
    if (row != null && i >= 0 && i < row.length) {
      row[i] = value;
    }
  }

  private static void addTo(int[] row, int i, int value) {
    put(row, i, at(row, i) + value);
  }

  private static void wipe(int[] row) {
    if (row == null) {
      return;
    }
    for (int i = 0; i < row.length; i++) {
      row[i] = 0;
    }
  }

  private static boolean holds(int bits, int i) {
    return (bits >> i & 1) != 0;
  }

  private static int cell(int kind, int x, int z) {
    return (kind * MOST_PERSONS + x) * MOST_PERSONS + z;
  }

  /** The persons with their marks, and the ties as they are in the year drawn last. */
  private static final class Town {
    private final int[] marks = new int[MOST_PERSONS];
    private final int[] strengths = new int[CELLS];
    private int size;

    private void settle(int n) {
      size = n;
      wipe(marks);
    }

    private boolean lives(int x) {
      return x >= 0 && x < size;
    }

    /** As cell and at: asked for most, and from the deepest calls, so it calls none itself. */
    private int strength(int kind, int x, int z) {
      int place = (kind * MOST_PERSONS + x) * MOST_PERSONS + z;
      return place >= 0 && place < strengths.length ? strengths[place] : 0;
    }

    private boolean tied(int kind, int x, int z) {
      return strength(kind, x, z) > 0;
    }

    private boolean sameMark(int x, int y) {
      return at(marks, x) == at(marks, y);
    }

    private int tiesOf(int kind, int x, boolean incoming) {
      int sum = 0;
      for (int z = 0; z < size; z++) {
        if (incoming ? tied(kind, z, x) : tied(kind, x, z)) {
          sum++;
        }
      }
      return sum;
    }

    private int tiesOfKind(int kind) {
      int sum = 0;
      for (int x = 0; x < size; x++) {
        sum += tiesOf(kind, x, false);
      }
      return sum;
    }

    private int tiesInAll() {
      int sum = 0;
      for (int kind = 0; kind < KINDS; kind++) {
        sum += tiesOfKind(kind);
      }
      return sum;
    }
  }

  /** Ties in the order in which they were told. */
  private static final class Told {
    private static final int FIELDS = 6;
    private static final int FROM = 0;
    private static final int TO = 1;
    private static final int KIND = 2;
    private static final int STRENGTH = 3;
    private static final int SINCE = 4;
    private static final int UNTIL = 5;

    private final int[] rows = new int[MOST_TIES * FIELDS];
    private int size;

    private void drain() {
      size = 0;
    }

    private int field(int i, int which) {
      return at(rows, i * FIELDS + which);
    }

    /** A tie is told field by field where the next one stands, and counts from its end on. */
    private void draft(int which, int value) {
      put(rows, size * FIELDS + which, value);
    }

    private void endDraft() {
      if (size < MOST_TIES) {
        size++;
      }
    }

    private void takeAll(Told others) {
      for (int i = 0; i < others.size; i++) {
        for (int which = 0; which < FIELDS; which++) {
          draft(which, others.field(i, which));
        }
        endDraft();
      }
    }

    private void drop(int i) {
      for (int place = i * FIELDS; place < (size - 1) * FIELDS; place++) {
        put(rows, place, at(rows, place + FIELDS));
      }
      size--;
    }

    private void draw(Town town, int year) {
      wipe(town.strengths);
      for (int i = 0; i < size; i++) {
        if (field(i, SINCE) <= year && year < field(i, UNTIL)) {
          int place = cell(field(i, KIND), field(i, FROM), field(i, TO));
          put(town.strengths, place, field(i, STRENGTH));
        }
      }
    }

    /** The first year behind a year in which a tie begins or ends; behind the last year if none. */
    private int nextChange(int year) {
      int soonest = LAST_YEAR + 1;
      for (int i = 0; i < size; i++) {
        if (field(i, SINCE) > year) {
          soonest = Math.min(soonest, field(i, SINCE));
        }
        if (field(i, UNTIL) > year) {
          soonest = Math.min(soonest, field(i, UNTIL));
        }
      }
      return soonest;
    }
  }

  /** The bytes that came, and the reading of them; where a reading stops short, place is the fault. */
  private static final class Tape {
    private final int[] bytes = new int[MOST_BYTES];
    private final Told heard = new Told();
    private int size;
    private int place;
    private int persons;

    private void append(int value) {
      if (size < MOST_BYTES) {
        put(bytes, size, value);
        size++;
      }
    }

    private boolean readAll(int n) {
      persons = n;
      place = 0;
      heard.drain();
      boolean more = true;
      for (int i = 0; i <= MOST_BYTES && more; i++) {
        if (!readTie()) {
          return false;
        }
        heard.endDraft();
        more = skip(';');
      }
      return place == size;
    }

    private boolean readTie() {
      heard.draft(Told.STRENGTH, 1);
      heard.draft(Told.SINCE, 0);
      heard.draft(Told.UNTIL, LAST_YEAR);
      return readPerson(Told.FROM) && skip('>') && here() != 'a' + drafted(Told.FROM) && readPerson(Told.TO)
          && readInto(Told.KIND, '0', '0' + KINDS - 1, '0') && readStrength() && readYears();
    }

    private boolean readPerson(int which) {
      return readInto(which, 'a', 'a' + persons - 1, 'a');
    }

    private boolean readStrength() {
      return !skip('*') || readInto(Told.STRENGTH, '1', '9', '0');
    }

    private boolean readYears() {
      return !skip('@')
          || readYear(Told.SINCE, -1) && skip('-') && readYear(Told.UNTIL, drafted(Told.SINCE));
    }

    private boolean readYear(int which, int below) {
      int start = place;
      int value = 0;
      while (place - start < YEAR_DIGITS && here() >= '0' && here() <= '9') {
        value = value * 10 + here() - '0';
        place++;
      }
      if (place == start) {
        return false;
      }
      if (value > LAST_YEAR || value <= below) {
        place = start;
        return false;
      }
      heard.draft(which, value);
      return true;
    }

    /** Takes a byte of low .. high, told as how far it is from the sign for 0. */
    private boolean readInto(int which, int low, int high, int zero) {
      int one = here();
      if (one < low || one > high) {
        return false;
      }
      heard.draft(which, one - zero);
      place++;
      return true;
    }

    private int drafted(int which) {
      return heard.field(heard.size, which);
    }

    private boolean skip(int one) {
      if (here() != one) {
        return false;
      }
      place++;
      return true;
    }

    private int here() {
      return place < size ? at(bytes, place) : -1;
    }
  }

  /** Each person's part; parts are numbered as they come. */
  private static final class Parting {
    private final int[] part = new int[MOST_PERSONS];
    private int persons;
    private int parts;

    private boolean readNumber(int number, int n) {
      persons = n;
      parts = 0;
      int rest = number;
      for (int x = n - 1; x >= 0; x--) {
        put(part, x, rest % 10);
        rest /= 10;
      }
      if (number < 0 || rest != 0) {
        return false;
      }
      for (int x = 0; x < n; x++) {
        if (of(x) > parts) {
          return false;
        }
        parts = Math.max(parts, of(x) + 1);
      }
      return true;
    }

    private int number() {
      int sum = 0;
      for (int x = 0; x < persons; x++) {
        sum = sum * 10 + of(x);
      }
      return sum;
    }

    private int of(int x) {
      return at(part, x);
    }

    private boolean has(int p) {
      return p >= 0 && p < parts;
    }

    private boolean together(int x, int y) {
      return of(x) == of(y);
    }

    private void allInOne(int n) {
      persons = n;
      parts = 1;
      wipe(part);
    }

    private void begin(int n) {
      persons = n;
      parts = 0;
    }

    /** The next person's part: that of one ahead of it, or a new one if that is below 0. */
    private void place(int x, int ahead) {
      if (ahead < 0) {
        put(part, x, parts);
        parts++;
      } else {
        put(part, x, of(ahead));
      }
    }

    /** To the parting with the next number; false behind the last one. */
    private boolean forward() {
      for (int x = persons - 1; x > 0; x--) {
        if (of(x) <= topAhead(x)) {
          addTo(part, x, 1);
          for (int later = x + 1; later < persons; later++) {
            put(part, later, 0);
          }
          parts = topAhead(persons) + 1;
          return true;
        }
      }
      return false;
    }

    private int topAhead(int x) {
      int top = 0;
      for (int y = 0; y < x; y++) {
        top = Math.max(top, of(y));
      }
      return top;
    }

    private void copy(Parting other) {
      persons = other.persons;
      parts = other.parts;
      for (int x = 0; x < persons; x++) {
        put(part, x, other.of(x));
      }
    }

    /** Leaves numbers out: what comes of it is to be renumbered. */
    private void mergeBy(Parting other) {
      for (int x = 0; x < persons; x++) {
        for (int y = x + 1; y < persons; y++) {
          if (other.together(x, y)) {
            rename(of(y), of(x));
          }
        }
      }
    }

    private void rename(int old, int fresh) {
      for (int x = 0; x < persons; x++) {
        if (of(x) == old) {
          put(part, x, fresh);
        }
      }
    }

    private void copyRenumbered(Parting other) {
      cross(other, other);
    }

    private void cross(Parting a, Parting b) {
      begin(a.persons);
      for (int x = 0; x < persons; x++) {
        int ahead = -1;
        for (int y = 0; y < x && ahead < 0; y++) {
          if (a.together(x, y) && b.together(x, y)) {
            ahead = y;
          }
        }
        place(x, ahead);
      }
    }

    private int sizeOf(int p) {
      int sum = 0;
      for (int x = 0; x < persons; x++) {
        if (of(x) == p) {
          sum++;
        }
      }
      return sum;
    }
  }

  /** By which persons may be the same, and the partings that keep to it. */
  private static final class Sameness {
    private static final int SIDES = 2 * KINDS;

    /** What each person's ties to and from the parts look like, packed: a number a kind and side. */
    private final int[] views = new int[MOST_PERSONS * SIDES];

    private int firstUnlike(Town town, Parting by, int kind) {
      look(town, by, kind);
      for (int x = 0; x < town.size; x++) {
        for (int y = x + 1; y < town.size; y++) {
          if (by.together(x, y) && !alike(town, kind, x, y)) {
            return 10 * x + y;
          }
        }
      }
      return NONE;
    }

    private void refine(Town town, Parting start, Parting scratch, int kind) {
      for (int round = 0; round < MOST_PERSONS; round++) {
        split(town, start, scratch, kind);
        if (scratch.parts == start.parts) {
          return;
        }
        start.copy(scratch);
      }
    }

    private void split(Town town, Parting from, Parting into, int kind) {
      look(town, from, kind);
      into.begin(town.size);
      for (int x = 0; x < town.size; x++) {
        int ahead = -1;
        for (int y = 0; y < x && ahead < 0; y++) {
          if (from.together(x, y) && alike(town, kind, y, x)) {
            ahead = y;
          }
        }
        into.place(x, ahead);
      }
    }

    private boolean alike(Town town, int kind, int x, int y) {
      if (!town.sameMark(x, y)) {
        return false;
      }
      switch (kind) {
        case BY_MARK:
          return true;
        case BY_SAME:
          return swappable(town, x, y, false);
        case BY_TWIN:
          return swappable(town, x, y, true);
        default:
          return sameView(x, y);
      }
    }

    private boolean sameView(int x, int y) {
      for (int side = 0; side < SIDES; side++) {
        if (at(views, x * SIDES + side) != at(views, y * SIDES + side)) {
          return false;
        }
      }
      return true;
    }

    private void look(Town town, Parting by, int kind) {
      if (kind == BY_MARK || kind == BY_SAME || kind == BY_TWIN) {
        return;
      }
      wipe(views);
      for (int tieKind = 0; tieKind < KINDS; tieKind++) {
        for (int x = 0; x < town.size; x++) {
          for (int z = 0; z < town.size; z++) {
            if (town.tied(tieKind, x, z)) {
              note(x * SIDES + tieKind, by.of(z), kind == BY_COUNT);
              note(z * SIDES + KINDS + tieKind, by.of(x), kind == BY_COUNT);
            }
          }
        }
      }
    }

    /** Three bits a part, as a person has six others at most. */
    private void note(int place, int part, boolean counted) {
      int one = 1 << (3 * part);
      put(views, place, counted ? at(views, place) + one : at(views, place) | one);
    }

    private static boolean swappable(Town town, int x, int y, boolean strengths) {
      for (int kind = 0; kind < KINDS; kind++) {
        boolean same = match(town.strength(kind, x, y), town.strength(kind, y, x), strengths);
        for (int z = 0; z < town.size && same; z++) {
          same = z == x || z == y
              || match(town.strength(kind, x, z), town.strength(kind, y, z), strengths)
              && match(town.strength(kind, z, x), town.strength(kind, z, y), strengths);
        }
        if (!same) {
          return false;
        }
      }
      return true;
    }

    private static boolean match(int a, int b, boolean strengths) {
      return strengths ? a == b : (a > 0) == (b > 0);
    }
  }

  /** Ways to put the persons in another order, tried one behind the other. */
  private static final class Turns {
    private final int[] image = new int[MOST_PERSONS];
    private final int[] best = new int[MOST_PERSONS];
    /** For each person those ahead (bits) with whom it could change places unseen. */
    private final int[] twinsAhead = new int[MOST_PERSONS];
    private int depth;
    private int used;

    /** All turns are those that keep the persons ahead, times where the next one can come to. */
    private int howMany(Town town) {
      int product = 1;
      for (int x = 0; x < town.size; x++) {
        int places = 0;
        for (int y = x; y < town.size; y++) {
          if (brings(town, x, x, y)) {
            places++;
          }
        }
        product *= places;
      }
      return product;
    }

    private void partByOrbit(Town town, Parting into) {
      into.begin(town.size);
      for (int x = 0; x < town.size; x++) {
        int ahead = -1;
        for (int y = 0; y < x && ahead < 0; y++) {
          if (brings(town, 0, y, x)) {
            ahead = y;
          }
        }
        into.place(x, ahead);
      }
    }

    /** Whether some turn keeps the first persons, as many as are fixed, and brings x to y. */
    private boolean brings(Town town, int fixed, int x, int y) {
      if (!town.sameMark(x, y)) {
        return false;
      }
      begin();
      for (int step = 0; step < MOST_STEPS && depth >= 0 && depth < town.size; step++) {
        step(nextKeeping(town, fixed, x, y));
      }
      return depth >= town.size;
    }

    private void begin() {
      depth = 0;
      used = 0;
      put(image, 0, -1);
    }

    /** Puts a person at the place, or goes back a place if it is below 0. */
    private void step(int person) {
      if (person < 0) {
        depth--;
        return;
      }
      put(image, depth, person);
      used |= 1 << person;
      depth++;
      put(image, depth, -1);
    }

    /** Takes the person from the place; the first one to try there next. */
    private int lift() {
      int old = at(image, depth);
      if (old >= 0) {
        used &= ~(1 << old);
      }
      return old + 1;
    }

    private int nextKeeping(Town town, int fixed, int x, int y) {
      for (int person = lift(); person < town.size; person++) {
        boolean due = depth < fixed ? person == depth : (depth == x) == (person == y);
        if (due && !holds(used, person) && keepsAhead(town, person) && keeps(town, depth, x, person, y)) {
          return person;
        }
      }
      return -1;
    }

    private boolean keepsAhead(Town town, int person) {
      if (!town.sameMark(depth, person)) {
        return false;
      }
      for (int x = 0; x < depth; x++) {
        if (!keeps(town, depth, x, person, at(image, x))) {
          return false;
        }
      }
      return true;
    }

    private static boolean keeps(Town town, int x, int z, int imageX, int imageZ) {
      for (int kind = 0; kind < KINDS; kind++) {
        if (town.strength(kind, x, z) != town.strength(kind, imageX, imageZ)
            || town.strength(kind, z, x) != town.strength(kind, imageZ, imageX)) {
          return false;
        }
      }
      return true;
    }

    private int leastRow(Town town) {
      findTwins(town);
      int lead = firstKind(town);
      boolean any = false;
      begin();
      for (int step = 0; step < MOST_STEPS && depth >= 0; step++) {
        if (depth < town.size) {
          step(nextInRow(town, lead, any));
        } else {
          if (!any || lessThanBest(town, lead)) {
            keepBest(town);
          }
          any = true;
          depth--;
        }
      }
      return bestAsNumber(town);
    }

    private void findTwins(Town town) {
      for (int x = 0; x < town.size; x++) {
        int bits = 0;
        for (int y = 0; y < x; y++) {
          if (town.sameMark(x, y) && Sameness.swappable(town, x, y, true)) {
            bits |= 1 << y;
          }
        }
        put(twinsAhead, x, bits);
      }
    }

    /** The first kind of which there are ties: the rows of those ahead are all alike. */
    private static int firstKind(Town town) {
      for (int kind = 0; kind < KINDS; kind++) {
        if (town.tiesOfKind(kind) > 0) {
          return kind;
        }
      }
      return 0;
    }

    private int nextInRow(Town town, int lead, boolean any) {
      for (int person = lift(); person < town.size; person++) {
        boolean free = !holds(used, person) && (at(twinsAhead, person) & ~used) == 0;
        if (free && hasLeastMark(town, person) && !(any && behindBest(town, lead, person))) {
          return person;
        }
      }
      return -1;
    }

    private boolean hasLeastMark(Town town, int person) {
      for (int other = 0; other < town.size; other++) {
        if (!holds(used, other) && at(town.marks, other) < at(town.marks, person)) {
          return false;
        }
      }
      return true;
    }

    /** Whether the first person's ties, as far as they are known with this person, are above the best. */
    private boolean behindBest(Town town, int lead, int person) {
      for (int z = 1; z <= depth; z++) {
        int mine = town.strength(lead, at(image, 0), z == depth ? person : at(image, z));
        int other = town.strength(lead, at(best, 0), at(best, z));
        if (mine != other) {
          return mine > other;
        }
      }
      return false;
    }

    private boolean lessThanBest(Town town, int lead) {
      for (int kind = lead; kind < KINDS; kind++) {
        for (int x = 0; x < town.size; x++) {
          for (int z = 0; z < town.size; z++) {
            int mine = town.strength(kind, at(image, x), at(image, z));
            int other = town.strength(kind, at(best, x), at(best, z));
            if (mine != other) {
              return mine < other;
            }
          }
        }
      }
      return false;
    }

    private void keepBest(Town town) {
      for (int x = 0; x < town.size; x++) {
        put(best, x, at(image, x));
      }
    }

    private int bestAsNumber(Town town) {
      long number = 0;
      for (int x = 0; x < town.size; x++) {
        number = behind(number, at(town.marks, at(best, x)));
      }
      for (int kind = 0; kind < KINDS; kind++) {
        for (int x = 0; x < town.size; x++) {
          for (int z = 0; z < town.size; z++) {
            number = behind(number, town.strength(kind, at(best, x), at(best, z)));
          }
        }
      }
      return (int) number;
    }

    private static long behind(long number, int digit) {
      return (number * 10 + digit) % FORM_MODULUS;
    }
  }

  /** The ties seen from part to part. */
  private static final class Blocks {
    private final int[] tally = new int[CELLS];
    private final int[] sizes = new int[MOST_PERSONS];

    private int misfits(Town town, Parting by) {
      tallyTies(town, by);
      int sum = 0;
      for (int kind = 0; kind < KINDS; kind++) {
        for (int p = 0; p < by.parts; p++) {
          for (int q = 0; q < by.parts; q++) {
            sum += misfit(kind, p, q, 0);
          }
        }
      }
      return sum;
    }

    private void tallyTies(Town town, Parting by) {
      wipe(tally);
      wipe(sizes);
      for (int x = 0; x < town.size; x++) {
        addTo(sizes, by.of(x), 1);
        for (int z = 0; z < town.size; z++) {
          for (int kind = 0; kind < KINDS; kind++) {
            if (town.tied(kind, x, z)) {
              addTo(tally, cell(kind, by.of(x), by.of(z)), 1);
            }
          }
        }
      }
    }

    /** How many ties would have to change from part to part, if there were so many more. */
    private int misfit(int kind, int p, int q, int more) {
      int there = at(tally, cell(kind, p, q)) + more;
      int pairs = at(sizes, p) * (at(sizes, q) - (p == q ? 1 : 0));
      return Math.min(there, pairs - there);
    }

    private int bestWith(Town town, Parting by, int k, int what) {
      int number = 0;
      int fewest = -1;
      int fewestOfOthers = -1;
      by.allInOne(town.size);
      boolean more = true;
      for (int i = 0; i < MOST_PARTINGS && more; i++) {
        int misfits = by.parts == k ? misfits(town, by) : -1;
        if (misfits >= 0 && (fewest < 0 || misfits < fewest)) {
          fewestOfOthers = fewest;
          fewest = misfits;
          number = by.number();
        } else if (misfits >= 0 && (fewestOfOthers < 0 || misfits < fewestOfOthers)) {
          fewestOfOthers = misfits;
        }
        more = by.forward();
      }
      if (what == 0) {
        return number;
      }
      if (what == 1) {
        return fewest;
      }
      return fewestOfOthers < 0 ? NONE : fewestOfOthers - fewest;
    }

    private int worstTie(Town town, Parting by, boolean named) {
      tallyTies(town, by);
      int name = NONE;
      int most = 0;
      for (int x = 0; x < town.size; x++) {
        for (int z = 0; z < town.size; z++) {
          for (int kind = 0; x != z && kind < KINDS; kind++) {
            int gain = gainOf(town, by, x, z, kind);
            if (name < 0 || gain > most) {
              name = 100 * x + 10 * z + kind;
              most = gain;
            }
          }
        }
      }
      return named ? name : most;
    }

    private int gainOf(Town town, Parting by, int x, int z, int kind) {
      int p = by.of(x);
      int q = by.of(z);
      return misfit(kind, p, q, 0) - misfit(kind, p, q, town.tied(kind, x, z) ? -1 : 1);
    }

    private int image(Town town, Parting by, int p, int q, int kind) {
      int others = by.sizeOf(q) - (p == q ? 1 : 0);
      int fewest = others;
      int most = 0;
      for (int x = 0; x < town.size; x++) {
        if (by.of(x) == p) {
          int ties = tiesTo(town, by, x, q, kind);
          fewest = Math.min(fewest, ties);
          most = Math.max(most, ties);
        }
      }
      if (most == 0) {
        return 0;
      }
      if (fewest == others) {
        return 1;
      }
      if (fewest == most) {
        return 2;
      }
      return fewest > 0 ? 3 : 4;
    }

    private int tiesTo(Town town, Parting by, int x, int q, int kind) {
      int sum = 0;
      for (int z = 0; z < town.size; z++) {
        if (by.of(z) == q && town.tied(kind, x, z)) {
          sum++;
        }
      }
      return sum;
    }
  }

  /** What is told of one who is not in the town yet. */
  private static final class Newcomer {
    private final int[] kinds = new int[MOST_HINTS];
    private final int[] persons = new int[MOST_HINTS];
    private final int[] outgoing = new int[MOST_HINTS];
    private int size;

    private void append(int kind, int person, boolean to) {
      put(kinds, size, kind);
      put(persons, size, person);
      put(outgoing, size, to ? 1 : 0);
      size++;
    }

    private int suitingParts(Town town, Parting by) {
      int bits = 0;
      for (int p = 0; p < by.parts; p++) {
        boolean suits = true;
        for (int i = 0; i < size && suits; i++) {
          suits = hasSuchTie(town, by, p, i);
        }
        if (suits) {
          bits |= 1 << p;
        }
      }
      return bits;
    }

    private boolean hasSuchTie(Town town, Parting by, int p, int i) {
      int q = by.of(at(persons, i));
      boolean to = at(outgoing, i) == 1;
      for (int x = 0; x < town.size; x++) {
        for (int z = 0; z < town.size; z++) {
          boolean between = by.of(x) == p && by.of(z) == q;
          if (between && (to ? town.tied(at(kinds, i), x, z) : town.tied(at(kinds, i), z, x))) {
            return true;
          }
        }
      }
      return false;
    }
  }

  /** Which part of one parting is best called by the name of which part of another one. */
  private static final class Matching {
    private final int[] shared = new int[MOST_PERSONS * MOST_PERSONS];
    /** By which parts of the second parting (bits) are free to use: the most persons that keep theirs. */
    private final int[] most = new int[1 << MOST_PERSONS];

    private int keepers(Parting a, Parting b) {
      wipe(shared);
      for (int x = 0; x < a.persons; x++) {
        addTo(shared, a.of(x) * MOST_PERSONS + b.of(x), 1);
      }
      wipe(most);
      int whole = (1 << b.parts) - 1;
      for (int p = 0; p < a.parts; p++) {
        // Downwards, as the sets below must not know of part p yet.
        for (int free = whole; free > 0; free--) {
          put(most, free, bestFor(p, free, b.parts));
        }
      }
      return at(most, whole);
    }

    private int bestFor(int p, int free, int parts) {
      int top = at(most, free);
      for (int q = 0; q < parts; q++) {
        if (holds(free, q)) {
          top = Math.max(top, at(most, free & ~(1 << q)) + at(shared, p * MOST_PERSONS + q));
        }
      }
      return top;
    }
  }
}
