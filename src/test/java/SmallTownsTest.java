/** Every town of three with ties of one kind, of strength 1 or 2, and two marks: all is asked of it and of the Oracle. */
public final class SmallTownsTest {
  private static final int PERSONS = 3;
  private static final int KINDS = 3;
  private static final int[] PARTINGS = {0, 1, 10, 11, 12};
  private static final String[] PAIRS = {"a>b", "a>c", "b>a", "b>c", "c>a", "c>b"};
  private static final Check CHECK = new Check();

  private final SameParts program = new SameParts();
  private final Oracle oracle = new Oracle();
  private final String name;

  private SmallTownsTest(String ties, int marks, int kind) {
    name = "town " + ties + " marks " + Integer.toBinaryString(8 + marks).substring(1) + " kind " + kind + ": ";
    program.persons(PERSONS);
    oracle.persons(PERSONS);
    for (int x = 0; x < PERSONS; x++) {
      program.mark(x, marks >> x & 1);
      oracle.mark(x, marks >> x & 1);
    }
    tell(ties);
  }

  public static void main(String[] args) {
    for (int code = 0; code < 729; code++) {
      int kind = code % KINDS;
      String ties = tiesOf(code, kind);
      for (int marks = 0; marks < 4; marks++) {
        SmallTownsTest town = new SmallTownsTest(ties, marks, kind);
        town.askOfTown();
        town.askOfPersons(kind);
        for (int parting : PARTINGS) {
          town.askOf(parting, kind);
        }
        town.askOfNewcomer(kind, code);
      }
    }
    CHECK.end("SmallTownsTest");
  }

  private static String tiesOf(int code, int kind) {
    StringBuilder text = new StringBuilder();
    int rest = code;
    for (String pair : PAIRS) {
      if (rest % 3 > 0) {
        text.append(text.isEmpty() ? "" : ";").append(pair).append(kind).append(rest % 3 == 2 ? "*2" : "");
      }
      rest /= 3;
    }
    return text.toString();
  }

  private void due(String call, int got, int want) {
    CHECK.due(name + call, got, want);
  }

  private void tell(String ties) {
    for (int i = 0; i < ties.length(); i++) {
      program.feed(1, ties.charAt(i));
      oracle.feed(1, ties.charAt(i));
    }
    due("ties", program.ties(), oracle.ties());
  }

  private void askOfTown() {
    due("renamings", program.renamings(), oracle.renamings());
    due("orbits", program.orbits(), oracle.orbits());
    due("form", program.form(), oracle.form());
    due("count 2", program.count(2), oracle.count(2));
    for (int kind = 0; kind < 5; kind++) {
      due("all " + kind, program.all(kind), oracle.all(kind));
      due("next " + kind, program.next(kind, 0), oracle.next(kind, 0));
      due("shift " + kind, program.shift(0, 100, kind), oracle.shift(0, 100, kind));
      due("stays " + kind, program.stays(99, kind), oracle.stays(99, kind));
    }
    for (int k = 1; k <= PERSONS; k++) {
      for (int what = 0; what < 3; what++) {
        due("least " + k + " " + what, program.least(k, what), oracle.least(k, what));
      }
    }
  }

  private void askOfPersons(int kind) {
    for (int x = 0; x < PERSONS; x++) {
      due("degree to " + x, program.degree(kind, x, false), oracle.degree(kind, x, false));
      due("degree from " + x, program.degree(kind, x, true), oracle.degree(kind, x, true));
      for (int z = 0; z < PERSONS; z++) {
        due("tie " + x + z, program.tie(kind, x, z), oracle.tie(kind, x, z));
        due("moves " + x + z, program.moves(x, z), oracle.moves(x, z));
      }
    }
  }

  private void askOf(int parting, int kind) {
    due("wrong " + parting, program.wrong(parting), oracle.wrong(parting));
    due("spoils " + parting + " 0", program.spoils(parting, 0), oracle.spoils(parting, 0));
    due("spoils " + parting + " 1", program.spoils(parting, 1), oracle.spoils(parting, 1));
    for (int sameness = 0; sameness < 5; sameness++) {
      due("judge " + parting + " " + sameness, program.judge(parting, sameness), oracle.judge(parting, sameness));
      due("coarsest " + parting + " " + sameness,
          program.coarsest(parting, sameness), oracle.coarsest(parting, sameness));
    }
    for (int p = 0; p < PERSONS; p++) {
      for (int q = 0; q < PERSONS; q++) {
        due("picture " + parting + " " + p + q,
            program.picture(parting, p, q, kind), oracle.picture(parting, p, q, kind));
      }
    }
  }

  /** One tie or two of the newcomer, others from town to town. */
  private void askOfNewcomer(int kind, int code) {
    for (int i = 0; i < 2; i++) {
      int person = (code + i) % PERSONS;
      boolean to = (code >> i & 1) == 0;
      due("newcomer " + person + to, program.newcomer(kind, person, to), oracle.newcomer(kind, person, to));
      for (int parting : PARTINGS) {
        due("fits " + parting, program.fits(parting), oracle.fits(parting));
      }
    }
  }
}
