import java.math.BigInteger;
import java.util.ArrayList;
import java.util.Arrays;
import java.util.List;
import java.util.function.IntPredicate;
import java.util.regex.Matcher;
import java.util.regex.Pattern;

/**
 * The document once more, as slow and literal as can be, and by other ways than the program goes:
 * all orders of the persons, all partings, the text by a pattern.
 */
final class Oracle {
  private record Told(int from, int to, int kind, int strength, int since, int until) { }

  private record Hint(int kind, int person, boolean to) { }

  private static final List<List<int[]>> PARTINGS = new ArrayList<>();
  private static final List<List<int[]>> ORDERS = new ArrayList<>();

  static {
    for (int n = 0; n <= 7; n++) {
      List<int[]> partings = new ArrayList<>();
      if (n > 0) {
        addPartings(partings, new int[n], 0, 0);
      }
      PARTINGS.add(partings);
      List<int[]> orders = new ArrayList<>();
      addOrders(orders, new int[n], 0, new boolean[n]);
      ORDERS.add(orders);
    }
  }

  private int n = 4;
  private int year = 0;
  private int[] marks = new int[4];
  private final List<Told> told = new ArrayList<>();
  private final List<Hint> hints = new ArrayList<>();
  private final StringBuilder tape = new StringBuilder();
  private final int[] refused = new int[7];

  private static void addPartings(List<int[]> into, int[] parts, int x, int top) {
    if (x == parts.length) {
      into.add(parts.clone());
      return;
    }
    for (int p = 0; p <= top; p++) {
      parts[x] = p;
      addPartings(into, parts, x + 1, Math.max(top, p + 1));
    }
  }

  private static void addOrders(List<int[]> into, int[] order, int x, boolean[] used) {
    if (x == order.length) {
      into.add(order.clone());
      return;
    }
    for (int p = 0; p < order.length; p++) {
      if (!used[p]) {
        used[p] = true;
        order[x] = p;
        addOrders(into, order, x + 1, used);
        used[p] = false;
      }
    }
  }

  private int refuse(int number) {
    refused[-number]++;
    return number;
  }

  private static int number(int[] parting) {
    int sum = 0;
    for (int p : parting) {
      sum = 10 * sum + p;
    }
    return sum;
  }

  private int[] partingOf(int number) {
    for (int[] parting : PARTINGS.get(n)) {
      if (number(parting) == number) {
        return parting;
      }
    }
    return null;
  }

  private static int parts(int[] parting) {
    return (int) Arrays.stream(parting).distinct().count();
  }

  private boolean person(int x) {
    return 0 <= x && x < n;
  }

  private int strength(int y, int kind, int x, int z) {
    int last = 0;
    for (Told t : told) {
      if (t.from == x && t.to == z && t.kind == kind && t.since <= y && t.until > y) {
        last = t.strength;
      }
    }
    return last;
  }

  /** By kind, person, person. */
  private int[][][] ties(int y) {
    int[][][] ties = new int[3][n][n];
    for (int kind = 0; kind < 3; kind++) {
      for (int x = 0; x < n; x++) {
        for (int z = 0; z < n; z++) {
          ties[kind][x][z] = strength(y, kind, x, z);
        }
      }
    }
    return ties;
  }

  int persons(int count) {
    if (count < 1) return refuse(-4);
    if (count > 7) return refuse(-6);
    int before = n;
    n = count;
    marks = new int[n];
    told.clear();
    hints.clear();
    return before;
  }

  int mark(int person, int v) {
    if (!person(person)) return refuse(-1);
    if (v < 0) return refuse(-4);
    if (v > 3) return refuse(-6);
    int before = marks[person];
    marks[person] = v;
    return before;
  }

  int year(int y) {
    if (y < 0) return refuse(-4);
    if (y > 100) return refuse(-6);
    int before = year;
    year = y;
    return before;
  }

  int feed(int count, long bytes) {
    if (count < 1) return refuse(-4);
    if (count > 8) return refuse(-6);
    if (tape.length() + count > 60) return refuse(-6);
    for (int i = 0; i < count; i++) {
      tape.append((char) (bytes >> 8 * i & 255));
    }
    return tape.length();
  }

  int ties() {
    String text = tape.toString();
    tape.setLength(0);
    int fault = faultOf(text);
    if (fault >= 0) return -20 - fault;
    String[] single = text.split(";");
    if (told.size() + single.length > 60) return refuse(-6);
    for (String one : single) {
      Matcher m = Pattern.compile("(.)>(.)(.)(?:\\*(.))?(?:@(\\d+)-(\\d+))?").matcher(one);
      if (!m.matches()) throw new IllegalStateException(one);
      told.add(new Told(m.group(1).charAt(0) - 'a', m.group(2).charAt(0) - 'a', m.group(3).charAt(0) - '0',
          m.group(4) == null ? 1 : Integer.parseInt(m.group(4)),
          m.group(5) == null ? 0 : Integer.parseInt(m.group(5)),
          m.group(6) == null ? 100 : Integer.parseInt(m.group(6))));
    }
    return told.size();
  }

  /** The longest beginning that could go on to a text of ties, or ahead of it a year that is wrong. */
  private int faultOf(String text) {
    StringBuilder pair = new StringBuilder();
    for (int x = 0; x < n; x++) {
      String others = "abcdefg".substring(0, n).replace("" + (char) ('a' + x), "");
      if (!others.isEmpty()) {
        pair.append(x > 0 ? "|" : "").append((char) ('a' + x)).append(">[").append(others).append("]");
      }
    }
    if (n == 1) {
      pair.append("a>(?!.)x");
    }
    String one = "(?:" + pair + ")[0-2](?:\\*[1-9])?(?:@[0-9]{1,3}-[0-9]{1,3})?";
    Pattern whole = Pattern.compile(one + "(?:;" + one + ")*", Pattern.DOTALL);
    int good = text.length();
    while (good > 0) {
      Matcher m = whole.matcher(text.substring(0, good));
      if (m.matches() || m.hitEnd() && n > 1 || n == 1 && "a>".startsWith(text.substring(0, good))) {
        break;
      }
      good--;
    }
    boolean stands = good == text.length() && whole.matcher(text).matches();
    int fault = stands ? -1 : good;
    Matcher years = Pattern.compile("@([0-9]{1,3})(?:-([0-9]{1,3}))?").matcher(text.substring(0, good));
    while (years.find()) {
      int first = Integer.parseInt(years.group(1));
      if (first > 100) return years.start(1);
      if (years.group(2) != null) {
        int second = Integer.parseInt(years.group(2));
        if (second > 100 || second <= first) return years.start(2);
      }
    }
    return fault;
  }

  int untie(int i) {
    if (i < 0 || i >= told.size()) return refuse(-1);
    told.remove(i);
    return 1;
  }

  int tie(int kind, int x, int z) {
    if (kind < 0 || kind > 2 || !person(x) || !person(z) || x == z) return refuse(-1);
    return strength(year, kind, x, z);
  }

  int degree(int kind, int x, boolean from) {
    if (kind < 0 || kind > 2 || !person(x)) return refuse(-1);
    int sum = 0;
    for (int z = 0; z < n; z++) {
      if (strength(year, kind, from ? z : x, from ? x : z) > 0) sum++;
    }
    return sum;
  }

  int parting(int number) {
    int[] parting = partingOf(number);
    return parting == null ? refuse(-1) : parts(parting);
  }

  /** Whether two are so, by the words of the document. */
  private boolean so(int[][][] ties, int[] parting, int kind, int x, int y) {
    if (marks[x] != marks[y]) return false;
    for (int k = 0; k < 3; k++) {
      for (int z = 0; z < n; z++) {
        boolean other = z != x && z != y;
        int xz = ties[k][x][z];
        int yz = ties[k][y][z];
        int zx = ties[k][z][x];
        int zy = ties[k][z][y];
        if (kind == 1 && other && (xz > 0 != yz > 0 || zx > 0 != zy > 0)) return false;
        if (kind == 2 && other && (xz != yz || zx != zy)) return false;
        if (kind == 3 && xz > 0 && !reaches(ties[k], parting, y, parting[z], false)) return false;
        if (kind == 3 && yz > 0 && !reaches(ties[k], parting, x, parting[z], false)) return false;
        if (kind == 3 && zx > 0 && !reaches(ties[k], parting, y, parting[z], true)) return false;
        if (kind == 3 && zy > 0 && !reaches(ties[k], parting, x, parting[z], true)) return false;
        if (kind == 4 && many(ties[k], parting, x, z, false) != many(ties[k], parting, y, z, false)) return false;
        if (kind == 4 && many(ties[k], parting, x, z, true) != many(ties[k], parting, y, z, true)) return false;
      }
      if (kind == 1 && ties[k][x][y] > 0 != ties[k][y][x] > 0) return false;
      if (kind == 2 && ties[k][x][y] != ties[k][y][x]) return false;
    }
    return true;
  }

  private boolean reaches(int[][] ties, int[] parting, int x, int part, boolean from) {
    return many(ties, parting, x, part, from) > 0;
  }

  private int many(int[][] ties, int[] parting, int x, int part, boolean from) {
    int sum = 0;
    for (int z = 0; z < n; z++) {
      if (parting[z] == part && (from ? ties[z][x] : ties[x][z]) > 0) sum++;
    }
    return sum;
  }

  private int firstBad(int[][][] ties, int[] parting, int kind) {
    for (int x = 0; x < n; x++) {
      for (int y = x + 1; y < n; y++) {
        if (parting[x] == parting[y] && !so(ties, parting, kind, x, y)) return 10 * x + y;
      }
    }
    return -9;
  }

  int judge(int number, int kind) {
    int[] parting = partingOf(number);
    if (parting == null || kind < 0 || kind > 4) return refuse(-1);
    return firstBad(ties(year), parting, kind);
  }

  private boolean finer(int[] a, int[] b) {
    for (int x = 0; x < n; x++) {
      for (int y = 0; y < n; y++) {
        if (a[x] == a[y] && b[x] != b[y]) return false;
      }
    }
    return true;
  }

  /** Of the true partings that are not coarser the one that all the others are finer than. */
  private int[] coarsestOf(int[][][] ties, int[] parting, int kind) {
    List<int[]> all = new ArrayList<>();
    for (int[] one : PARTINGS.get(n)) {
      if (finer(one, parting) && firstBad(ties, one, kind) == -9) all.add(one);
    }
    for (int[] one : all) {
      if (all.stream().allMatch(o -> finer(o, one))) return one;
    }
    throw new IllegalStateException("no coarsest one");
  }

  int coarsest(int number, int kind) {
    int[] parting = partingOf(number);
    if (parting == null || kind < 0 || kind > 4) return refuse(-1);
    return number(coarsestOf(ties(year), parting, kind));
  }

  private List<int[]> turns() {
    int[][][] ties = ties(year);
    List<int[]> turns = new ArrayList<>();
    for (int[] order : ORDERS.get(n)) {
      boolean keeps = true;
      for (int x = 0; x < n && keeps; x++) {
        keeps = marks[x] == marks[order[x]];
        for (int z = 0; z < n && keeps; z++) {
          for (int k = 0; k < 3; k++) {
            keeps &= ties[k][x][z] == ties[k][order[x]][order[z]];
          }
        }
      }
      if (keeps) turns.add(order);
    }
    return turns;
  }

  int renamings() {
    return turns().size();
  }

  int moves(int x, int y) {
    if (!person(x) || !person(y)) return refuse(-1);
    return turns().stream().anyMatch(t -> t[x] == y) ? 1 : 0;
  }

  int orbits() {
    List<int[]> turns = turns();
    int[] parting = new int[n];
    int top = 0;
    for (int x = 0; x < n; x++) {
      int end = x;
      parting[x] = -1;
      for (int y = 0; y < x; y++) {
        int one = y;
        if (turns.stream().anyMatch(t -> t[one] == end)) parting[x] = parting[y];
      }
      if (parting[x] < 0) parting[x] = top++;
    }
    return number(parting);
  }

  int form() {
    int[][][] ties = ties(year);
    int[] least = null;
    for (int[] order : ORDERS.get(n)) {
      int[] row = new int[n + 3 * n * n];
      int at = 0;
      for (int x = 0; x < n; x++) row[at++] = marks[order[x]];
      for (int k = 0; k < 3; k++) {
        for (int x = 0; x < n; x++) {
          for (int z = 0; z < n; z++) row[at++] = ties[k][order[x]][order[z]];
        }
      }
      if (least == null || Arrays.compare(row, least) < 0) least = row;
    }
    StringBuilder digits = new StringBuilder();
    for (int digit : least) digits.append(digit);
    return new BigInteger(digits.toString()).mod(BigInteger.valueOf(1000000007)).intValue();
  }

  int next(int kind, int after) {
    if (kind < 0 || kind > 4) return refuse(-1);
    if (after < -1) return refuse(-4);
    int[][][] ties = ties(year);
    return PARTINGS.get(n).stream().filter(p -> firstBad(ties, p, kind) == -9)
        .mapToInt(Oracle::number).filter(p -> p > after).min().orElse(-9);
  }

  int all(int kind) {
    if (kind < 0 || kind > 4) return refuse(-1);
    int[][][] ties = ties(year);
    return (int) PARTINGS.get(n).stream().filter(p -> firstBad(ties, p, kind) == -9).count();
  }

  int join(int a, int b) {
    int[] one = partingOf(a);
    int[] other = partingOf(b);
    if (one == null || other == null) return refuse(-1);
    int[] best = null;
    for (int[] p : PARTINGS.get(n)) {
      if (finer(one, p) && finer(other, p) && (best == null || parts(p) > parts(best))) best = p;
    }
    return number(best);
  }

  int meet(int a, int b) {
    int[] one = partingOf(a);
    int[] other = partingOf(b);
    if (one == null || other == null) return refuse(-1);
    int[] best = null;
    for (int[] p : PARTINGS.get(n)) {
      if (finer(p, one) && finer(p, other) && (best == null || parts(p) < parts(best))) best = p;
    }
    return number(best);
  }

  int picture(int number, int p, int q, int kind) {
    int[] parting = partingOf(number);
    if (parting == null || p < 0 || p >= parts(parting) || q < 0 || q >= parts(parting)) return refuse(-1);
    if (kind < 0 || kind > 2) return refuse(-1);
    List<List<Boolean>> rows = new ArrayList<>();
    for (int x = 0; x < n; x++) {
      List<Boolean> row = new ArrayList<>();
      for (int z = 0; z < n; z++) {
        if (parting[x] == p && parting[z] == q && x != z) row.add(strength(year, kind, x, z) > 0);
      }
      if (parting[x] == p) rows.add(row);
    }
    if (rows.stream().noneMatch(r -> r.contains(true))) return 0;
    if (rows.stream().noneMatch(r -> r.contains(false))) return 1;
    if (rows.stream().map(r -> r.stream().filter(t -> t).count()).distinct().count() == 1) return 2;
    return rows.stream().allMatch(r -> r.contains(true)) ? 3 : 4;
  }

  private int wrongOf(boolean[][][] there, int[] parting) {
    int sum = 0;
    for (int kind = 0; kind < 3; kind++) {
      for (int p = 0; p < n; p++) {
        for (int q = 0; q < n; q++) {
          int[] many = new int[2];
          for (int x = 0; x < n; x++) {
            for (int z = 0; z < n; z++) {
              if (x != z && parting[x] == p && parting[z] == q) many[there[kind][x][z] ? 1 : 0]++;
            }
          }
          sum += Math.min(many[0], many[1]);
        }
      }
    }
    return sum;
  }

  private boolean[][][] there() {
    boolean[][][] there = new boolean[3][n][n];
    for (int kind = 0; kind < 3; kind++) {
      for (int x = 0; x < n; x++) {
        for (int z = 0; z < n; z++) there[kind][x][z] = strength(year, kind, x, z) > 0;
      }
    }
    return there;
  }

  int wrong(int number) {
    int[] parting = partingOf(number);
    return parting == null ? refuse(-1) : wrongOf(there(), parting);
  }

  int least(int k, int what) {
    if (k < 1) return refuse(-4);
    if (k > n) return refuse(-6);
    if (what < 0 || what > 2) return refuse(-2);
    boolean[][][] there = there();
    List<int[]> rows = new ArrayList<>();
    for (int[] p : PARTINGS.get(n)) {
      if (parts(p) == k) rows.add(new int[] {wrongOf(there, p), number(p)});
    }
    rows.sort(Arrays::compare);
    if (what == 0) return rows.get(0)[1];
    if (what == 1) return rows.get(0)[0];
    return rows.size() < 2 ? -9 : rows.get(1)[0] - rows.get(0)[0];
  }

  int spoils(int number, int what) {
    int[] parting = partingOf(number);
    if (parting == null) return 1000000000 - refuse(-1);
    if (what != 0 && what != 1) return 1000000000 - refuse(-2);
    if (n == 1) return what == 0 ? -9 : 1000000000 - refuse(-3);
    boolean[][][] there = there();
    int now = wrongOf(there, parting);
    int least = Integer.MAX_VALUE;
    int tie = 0;
    for (int x = 0; x < n; x++) {
      for (int z = 0; z < n; z++) {
        for (int kind = 0; kind < 3; kind++) {
          if (x == z) continue;
          there[kind][x][z] ^= true;
          int then = wrongOf(there, parting);
          there[kind][x][z] ^= true;
          if (then < least) {
            least = then;
            tie = 100 * x + 10 * z + kind;
          }
        }
      }
    }
    return what == 0 ? tie : now - least;
  }

  int newcomer(int kind, int person, boolean to) {
    if (kind < 0 || kind > 2 || !person(person)) return refuse(-1);
    if (hints.size() == 6) return refuse(-6);
    hints.add(new Hint(kind, person, to));
    return hints.size();
  }

  int fits(int number) {
    int[] parting = partingOf(number);
    if (parting == null) return refuse(-1);
    int bits = 0;
    for (int p = 0; p < parts(parting); p++) {
      boolean fit = true;
      for (Hint hint : hints) {
        boolean some = false;
        for (int x = 0; x < n; x++) {
          for (int w = 0; w < n; w++) {
            some |= parting[x] == p && parting[w] == parting[hint.person]
                && strength(year, hint.kind, hint.to ? x : w, hint.to ? w : x) > 0;
          }
        }
        fit &= some;
      }
      if (fit) bits += 1 << p;
    }
    return bits;
  }

  int gone() {
    int before = hints.size();
    hints.clear();
    return before;
  }

  int shift(int a, int b, int kind) {
    if (kind < 0 || kind > 4) return refuse(-1);
    if (a < 0 || b < 0) return refuse(-4);
    if (a > 100 || b > 100) return refuse(-6);
    int[] one = coarsestOf(ties(a), new int[n], kind);
    int[] other = coarsestOf(ties(b), new int[n], kind);
    int fewest = n;
    for (int[] names : ORDERS.get(n)) {
      int need = 0;
      for (int x = 0; x < n; x++) {
        if (names[one[x]] != other[x]) need++;
      }
      fewest = Math.min(fewest, need);
    }
    return fewest;
  }

  int stays(int from, int kind) {
    if (kind < 0 || kind > 4) return refuse(-1);
    if (from < 0) return refuse(-4);
    if (from > 100) return refuse(-6);
    int[] then = coarsestOf(ties(from), new int[n], kind);
    // A year with the ties of the one ahead has its parting.
    int[][][] ahead = ties(from);
    int years = 1;
    for (int y = from + 1; y <= 100; y++) {
      int[][][] ties = ties(y);
      if (!Arrays.deepEquals(ahead, ties) && !Arrays.equals(coarsestOf(ties, new int[n], kind), then)) break;
      ahead = ties;
      years++;
    }
    return years;
  }

  int count(int what) {
    if (what == 0) return n;
    if (what == 1) return told.size();
    if (what == 2) {
      IntPredicate some = i -> strength(year, i / 49, i / 7 % 7, i % 7) > 0;
      return (int) java.util.stream.IntStream.range(0, 147).filter(some).count();
    }
    if (what == 3) return year;
    if (what == 4) return tape.length();
    if (what == 5) return hints.size();
    return what >= 11 && what <= 16 ? refused[what - 10] : -9;
  }
}
