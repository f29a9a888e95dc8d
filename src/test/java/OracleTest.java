import java.util.Random;

/** Runs of random calls, of which each is asked of the program and of the slow Oracle. */
public final class OracleTest {
  private static final int CALLS = 512;
  private static final Check CHECK = new Check();

  private final int run;
  private final Random random;
  private final SameParts program = new SameParts();
  private final Oracle oracle = new Oracle();
  private int n = 4;
  private int line = 0;

  private OracleTest(int run) {
    this.run = run;
    random = new Random(1000 + run);
  }

  public static void main(String[] args) {
    int runs = args.length > 0 ? Integer.parseInt(args[0]) : 200;
    for (int run = 0; run < runs; run++) {
      new OracleTest(run).play();
    }
    CHECK.end("OracleTest");
  }

  private void due(String call, int got, int want) {
    line++;
    CHECK.due("run " + run + " call " + line + " " + call, got, want);
  }

  private void play() {
    settle(somePersons());
    while (line < CALLS - 20) {
      int what = random.nextInt(100);
      if (what < 4) {
        change();
      } else if (what < 12) {
        tell();
      } else if (what < 50) {
        askOfTies();
      } else if (what < 75) {
        askOfPartings();
      } else {
        askOfAll();
      }
    }
    for (int i = -1; i < 18; i++) {
      due("count " + i, program.count(i), oracle.count(i));
    }
  }

  private void settle(int persons) {
    due("persons " + persons, program.persons(persons), oracle.persons(persons));
    n = oracle.count(0);
  }

  private int somePersons() {
    return Math.max(1, 7 - Math.min(random.nextInt(7), random.nextInt(9)));
  }

  /** Mostly one of 0 .. above, at times one that is not. */
  private int upTo(int above) {
    int odd = random.nextInt(40);
    if (odd == 0) {
      return -1 - random.nextInt(2);
    }
    if (odd == 1) {
      return above + random.nextInt(3);
    }
    if (odd == 2) {
      return random.nextBoolean() ? Integer.MIN_VALUE : Integer.MAX_VALUE;
    }
    return random.nextInt(Math.max(1, above));
  }

  private int someYear() {
    return random.nextInt(3) > 0 ? upTo(12) : upTo(101);
  }

  private int someParting() {
    if (random.nextInt(25) == 0) {
      return random.nextInt(2000000) - 1000;
    }
    int number = 0;
    int top = 0;
    int most = 1 + Math.max(random.nextInt(n), random.nextInt(n));
    for (int x = 0; x < n; x++) {
      int part = random.nextInt(Math.min(top + 1, most));
      top = Math.max(top, part + 1);
      number = 10 * number + part;
    }
    return number;
  }

  private void change() {
    switch (random.nextInt(8)) {
      case 0 -> settle(random.nextInt(4) == 0 ? upTo(8) : somePersons());
      case 1, 2, 3 -> {
        int y = someYear();
        due("year " + y, program.year(y), oracle.year(y));
      }
      case 4, 5 -> {
        int i = upTo(Math.max(1, oracle.count(1)));
        due("untie " + i, program.untie(i), oracle.untie(i));
      }
      default -> {
        int x = upTo(n);
        int v = random.nextInt(4) > 0 ? random.nextInt(2) : upTo(4);
        due("mark " + x + " " + v, program.mark(x, v), oracle.mark(x, v));
      }
    }
  }

  /** Ties at random, or, for towns with turns and true partings, one and what a rotation makes of it. */
  private String someText() {
    StringBuilder text = new StringBuilder();
    int round = random.nextInt(2) == 0 ? 1 : 1 + random.nextInt(n);
    int ties = 1 + random.nextInt(12);
    for (int i = 0; i < ties; i += round) {
      int x = random.nextInt(n);
      int z = n == 1 ? 0 : (x + 1 + random.nextInt(n - 1)) % n;
      String more = someEnd();
      for (int turn = 0; turn < round; turn++) {
        text.append(text.isEmpty() ? "" : ";").append((char) ('a' + x)).append('>').append((char) ('a' + z));
        text.append(more);
        x = x < round ? (x + 1) % round : x;
        z = z < round ? (z + 1) % round : z;
      }
    }
    String whole = text.length() > 60 ? text.substring(0, text.lastIndexOf(";", 60)) : text.toString();
    return random.nextInt(3) > 0 ? whole : spoilt(whole);
  }

  private String someEnd() {
    StringBuilder text = new StringBuilder();
    text.append(random.nextInt(3) == 0 ? random.nextInt(3) : 0);
    if (random.nextInt(6) == 0) {
      text.append('*').append(1 + random.nextInt(9));
    }
    if (random.nextInt(4) == 0) {
      int since = random.nextInt(10);
      text.append('@').append(since).append('-');
      text.append(random.nextInt(3) == 0 ? 100 : since + 1 + random.nextInt(8));
    }
    return text.toString();
  }

  private String spoilt(String text) {
    int at = random.nextInt(text.length() + 1);
    String signs = "abgh>012359*@-;; x\u00ff";
    String sign = "" + signs.charAt(random.nextInt(signs.length()));
    String tail = text.substring(Math.min(text.length(), at + 1));
    return switch (random.nextInt(4)) {
      case 0 -> text.substring(0, at);
      case 1 -> text.substring(0, at) + sign + tail;
      case 2 -> text.substring(0, at) + sign + text.substring(at);
      default -> text + "@" + random.nextInt(1200) + "-" + random.nextInt(1200);
    };
  }

  private void tell() {
    String text = someText();
    int at = 0;
    while (at < text.length()) {
      int many = Math.min(1 + random.nextInt(8), text.length() - at);
      String some = text.substring(at, at + many);
      long bytes = Check.packed(some) | (many < 8 ? random.nextLong() << 8 * many : 0);
      due("feed " + some, program.feed(many, bytes), oracle.feed(many, bytes));
      at += many;
    }
    if (random.nextInt(8) == 0) {
      int many = upTo(9);
      due("feed " + many, program.feed(many, 97), oracle.feed(many, 97));
    }
    due("ties " + text, program.ties(), oracle.ties());
  }

  private void askOfTies() {
    int kind = upTo(3);
    int x = upTo(n);
    int z = upTo(n);
    boolean way = random.nextBoolean();
    switch (random.nextInt(9)) {
      case 0 -> due("tie " + kind + x + z, program.tie(kind, x, z), oracle.tie(kind, x, z));
      case 1 -> due("degree " + kind + x + way, program.degree(kind, x, way), oracle.degree(kind, x, way));
      case 2 -> due("renamings", program.renamings(), oracle.renamings());
      case 3 -> due("moves " + x + z, program.moves(x, z), oracle.moves(x, z));
      case 4 -> due("orbits", program.orbits(), oracle.orbits());
      case 5 -> due("form", program.form(), oracle.form());
      case 6 -> due("newcomer " + kind + x + way, program.newcomer(kind, x, way), oracle.newcomer(kind, x, way));
      case 7 -> due("count 2", program.count(2), oracle.count(2));
      default -> {
        if (random.nextInt(3) == 0) {
          due("gone", program.gone(), oracle.gone());
        }
      }
    }
  }

  private void askOfPartings() {
    int a = someParting();
    int b = someParting();
    int p = upTo(3);
    int q = upTo(3);
    int kind = upTo(3);
    switch (random.nextInt(7)) {
      case 0 -> due("parting " + a, program.parting(a), oracle.parting(a));
      case 1 -> due("join " + a + " " + b, program.join(a, b), oracle.join(a, b));
      case 2 -> due("meet " + a + " " + b, program.meet(a, b), oracle.meet(a, b));
      case 3 -> due("picture " + a + " " + p + q + kind,
          program.picture(a, p, q, kind), oracle.picture(a, p, q, kind));
      case 4 -> due("wrong " + a, program.wrong(a), oracle.wrong(a));
      case 5 -> due("fits " + a, program.fits(a), oracle.fits(a));
      default -> {
        int what = upTo(2);
        due("spoils " + a + " " + what, program.spoils(a, what), oracle.spoils(a, what));
      }
    }
  }

  private void askOfAll() {
    int kind = upTo(5);
    int a = random.nextInt(3) == 0 ? 0 : someParting();
    int y = someYear();
    int other = someYear();
    switch (random.nextInt(14)) {
      case 0 -> due("all " + kind, program.all(kind), oracle.all(kind));
      case 1, 2 -> {
        int after = random.nextInt(6) == 0 ? upTo(1000) : a - 1;
        due("next " + kind + " " + after, program.next(kind, after), oracle.next(kind, after));
      }
      case 3 -> {
        int k = upTo(n + 1);
        int what = upTo(3);
        due("least " + k + " " + what, program.least(k, what), oracle.least(k, what));
      }
      case 4, 5 -> due("shift " + y + " " + other + " " + kind,
          program.shift(y, other, kind), oracle.shift(y, other, kind));
      case 6 -> due("stays " + y + " " + kind, program.stays(y, kind), oracle.stays(y, kind));
      case 7, 8, 9 -> due("judge " + a + " " + kind, program.judge(a, kind), oracle.judge(a, kind));
      default -> due("coarsest " + a + " " + kind, program.coarsest(a, kind), oracle.coarsest(a, kind));
    }
  }
}
