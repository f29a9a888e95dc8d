import java.util.ArrayList;
import java.util.List;
import java.util.function.Supplier;
import java.util.function.ToIntFunction;

/**
 * "REFUSALS (the call answers the number, the first that fits in the order in which it tells them; nothing changes but
 * how many there were)": every way to be refused, in towns of which each thing told has something; and that questions
 * change nothing either.
 */
public final class RefusalsTest {
  private static final int LOWEST = Integer.MIN_VALUE;
  private static final int HIGHEST = Integer.MAX_VALUE;
  private static final int[] KINDS_NONE = {-1, 3, LOWEST, HIGHEST};
  private static final int[] SAMENESSES_NONE = {-1, 5, LOWEST, HIGHEST};
  private static final int[] PERSONS_NONE = {-1, 3, LOWEST, HIGHEST};
  private static final int[] PARTINGS_NONE = {-1, 2, 13, 100, 123, LOWEST, HIGHEST};
  private static final String TWELVE = "a>b0;a>b0;a>b0;a>b0;a>b0;a>b0;a>b0;a>b0;a>b0;a>b0;a>b0;a>b0";
  private static final Check CHECK = new Check();

  private RefusalsTest() { }

  public static void main(String[] args) {
    personsMarksYears();
    tapeAndTies();
    noRoomForAll();
    partings();
    samenesses();
    turns();
    pictures();
    leastAndSpoils();
    newcomers();
    years();
    neverMinusFive();
    questionsChangeNothing();
    CHECK.end("RefusalsTest");
  }

  // -- Towns

  /** Three persons, of whom a and b differ in marks, ties of all kinds and some years, and more on the tape. */
  private static SameParts busy() {
    SameParts t = Check.town(3, "a>b0*2@0-50;b>c1;c>a2*9@10-20");
    t.mark(1, 3);
    t.mark(2, 1);
    t.year(10);
    t.newcomer(1, 2, true);
    t.newcomer(0, 0, false);
    Check.put(t, "a>");
    return t;
  }

  private static SameParts withFullTape() {
    SameParts t = busy();
    for (int i = 0; i < 7; i++) {
      t.feed(8, -1L);
    }
    t.feed(2, 97);
    return t;
  }

  private static SameParts withSixHints() {
    SameParts t = busy();
    for (int i = 0; i < 4; i++) {
      t.newcomer(0, 1, true);
    }
    return t;
  }

  private static SameParts alone() {
    SameParts t = Check.town(1, "");
    t.mark(0, 2);
    t.year(100);
    t.newcomer(2, 0, true);
    Check.put(t, "a");
    return t;
  }

  /** All that answers can tell of a town but how often it refused. The town is used up by it. */
  private static List<Integer> allOf(SameParts t) {
    List<Integer> all = new ArrayList<>();
    for (int what = 0; what <= 5; what++) {
      all.add(t.count(what));
    }
    int persons = t.count(0);
    for (int y : new int[] {t.count(3), 0, 10, 19, 20, 49, 50, 100}) {
      t.year(y);
      all.add(t.form());
      all.add(t.fits(0));
      all.add(t.fits(persons == 3 ? 12 : 0));
      for (int i = 0; i < 3 * persons * persons; i++) {
        all.add(t.tie(i % 3, i / 3 % persons, i / 3 / persons));
      }
    }
    all.add(t.feed(2, 0x3062));
    all.add(t.ties());
    all.add(t.gone());
    for (int x = 0; x < persons; x++) {
      all.add(t.mark(x, 0));
    }
    for (int i = 0; i < 5; i++) {
      all.add(t.untie(0));
      all.add(t.count(2));
    }
    return all;
  }

  // -- Looking at a call

  private static void due(String call, long got, long want) {
    CHECK.due(call, got, want);
  }

  /** Asks three times: each answers so, is counted under its number alone, and leaves all as it was. */
  private static void refused(String call, Supplier<SameParts> town, ToIntFunction<SameParts> ask, int number) {
    refusedBy(call, town, ask, number, number);
  }

  private static void refusedBy(String call, Supplier<SameParts> town, ToIntFunction<SameParts> ask, int number,
      int answer) {
    SameParts t = town.get();
    for (int i = 1; i <= 3; i++) {
      due(call, ask.applyAsInt(t), answer);
    }
    for (int other = 1; other <= 6; other++) {
      due(call + ", count " + (10 + other), t.count(10 + other), other == -number ? 3 : 0);
    }
    due(call + " changed nothing", allOf(t).equals(allOf(town.get())) ? 1 : 0, 1);
  }

  // -- The calls

  private static void personsMarksYears() {
    for (int n : new int[] {0, -1, LOWEST}) {
      refused("P2 persons " + n, RefusalsTest::busy, t -> t.persons(n), -4);
    }
    for (int n : new int[] {8, HIGHEST}) {
      refused("P2 persons " + n, RefusalsTest::busy, t -> t.persons(n), -6);
    }
    for (int x : PERSONS_NONE) {
      for (int v : new int[] {0, 3, -1, 4, LOWEST, HIGHEST}) {
        refused("P3 mark " + x + " " + v, RefusalsTest::busy, t -> t.mark(x, v), -1);
      }
    }
    for (int v : new int[] {-1, LOWEST}) {
      refused("P3 mark " + v, RefusalsTest::busy, t -> t.mark(1, v), -4);
      refused("P4 year " + v, RefusalsTest::busy, t -> t.year(v), -4);
    }
    for (int v : new int[] {4, HIGHEST}) {
      refused("P3 mark " + v, RefusalsTest::busy, t -> t.mark(1, v), -6);
    }
    for (int y : new int[] {101, HIGHEST}) {
      refused("P4 year " + y, RefusalsTest::busy, t -> t.year(y), -6);
    }
  }

  private static void tapeAndTies() {
    for (int n : new int[] {0, -1, LOWEST}) {
      refused("P5 feed " + n, RefusalsTest::busy, t -> t.feed(n, 98), -4);
      refused("P5 feed a full tape " + n, RefusalsTest::withFullTape, t -> t.feed(n, 98), -4);
    }
    for (int n : new int[] {9, HIGHEST}) {
      refused("P5 feed " + n, RefusalsTest::busy, t -> t.feed(n, 98), -6);
    }
    for (int n : new int[] {1, 8, 9, HIGHEST}) {
      refused("P5 feed a full tape " + n, RefusalsTest::withFullTape, t -> t.feed(n, 98), -6);
    }
    for (int i : new int[] {-1, 3, LOWEST, HIGHEST}) {
      refused("P7 untie " + i, RefusalsTest::busy, t -> t.untie(i), -1);
    }
    refused("P7 untie of none", RefusalsTest::alone, t -> t.untie(0), -1);
    for (int kind : KINDS_NONE) {
      refused("P8 kind " + kind, RefusalsTest::busy, t -> t.tie(kind, 0, 1), -1);
      refused("P9 kind " + kind, RefusalsTest::busy, t -> t.degree(kind, 0, true), -1);
    }
    for (int x : PERSONS_NONE) {
      refused("P8 of " + x, RefusalsTest::busy, t -> t.tie(0, x, 1), -1);
      refused("P8 to " + x, RefusalsTest::busy, t -> t.tie(0, 1, x), -1);
      refused("P9 to " + x, RefusalsTest::busy, t -> t.degree(0, x, true), -1);
      refused("P9 of " + x, RefusalsTest::busy, t -> t.degree(0, x, false), -1);
    }
    refused("P8 one twice", RefusalsTest::busy, t -> t.tie(0, 1, 1), -1);
  }

  /** "-6 no room for all (THE TAPE has none, too)", "If they do not all have room, nothing is told": but the tape. */
  private static void noRoomForAll() {
    Supplier<SameParts> full = () -> {
      SameParts t = busy();
      t.feed(2, 0x3063);
      t.ties();
      for (int i = 0; i < 4; i++) {
        Check.say(t, TWELVE);
      }
      Check.say(t, "b>a0;b>a0;b>a0;b>a0;b>a0;b>a0;c>b1");
      return t;
    };
    SameParts t = full.get();
    due("P6 59 are told", t.count(1), 59);
    for (int i = 1; i <= 3; i++) {
      due("P6 no room for two", Check.say(t, "c>b2;c>a0"), -6);
      due("P6 is counted", t.count(16), i);
      due("P6 the tape has none", t.count(4), 0);
    }
    due("P6 no room changed nothing else", allOf(t).equals(allOf(full.get())) ? 1 : 0, 1);
  }

  private static void partings() {
    for (int none : PARTINGS_NONE) {
      refused("P10 parting " + none, RefusalsTest::busy, t -> t.parting(none), -1);
      refused("P19 join " + none, RefusalsTest::busy, t -> t.join(none, 0), -1);
      refused("P19 join with " + none, RefusalsTest::busy, t -> t.join(0, none), -1);
      refused("P19 join of " + none, RefusalsTest::busy, t -> t.join(none, none), -1);
      refused("P20 meet " + none, RefusalsTest::busy, t -> t.meet(none, 0), -1);
      refused("P20 meet with " + none, RefusalsTest::busy, t -> t.meet(0, none), -1);
      refused("P20 meet of " + none, RefusalsTest::busy, t -> t.meet(none, none), -1);
      refused("P22 wrong " + none, RefusalsTest::busy, t -> t.wrong(none), -1);
      refused("P26 fits " + none, RefusalsTest::busy, t -> t.fits(none), -1);
    }
  }

  private static void samenesses() {
    for (int none : PARTINGS_NONE) {
      refused("P11 judge " + none, RefusalsTest::busy, t -> t.judge(none, 0), -1);
      refused("P12 coarsest " + none, RefusalsTest::busy, t -> t.coarsest(none, 0), -1);
      refused("P11 neither", RefusalsTest::busy, t -> t.judge(none, 5), -1);
      refused("P12 neither", RefusalsTest::busy, t -> t.coarsest(none, 5), -1);
    }
    for (int none : SAMENESSES_NONE) {
      refused("P11 kind " + none, RefusalsTest::busy, t -> t.judge(0, none), -1);
      refused("P12 kind " + none, RefusalsTest::busy, t -> t.coarsest(0, none), -1);
      refused("P17 kind " + none, RefusalsTest::busy, t -> t.next(none, -1), -1);
      refused("P17 kind ahead of below " + none, RefusalsTest::busy, t -> t.next(none, -2), -1);
      refused("P18 kind " + none, RefusalsTest::busy, t -> t.all(none), -1);
    }
    for (int after : new int[] {-2, LOWEST}) {
      refused("P17 behind " + after, RefusalsTest::busy, t -> t.next(0, after), -4);
    }
  }

  private static void turns() {
    for (int x : PERSONS_NONE) {
      refused("P14 of " + x, RefusalsTest::busy, t -> t.moves(x, 0), -1);
      refused("P14 to " + x, RefusalsTest::busy, t -> t.moves(0, x), -1);
      refused("P14 of and to " + x, RefusalsTest::busy, t -> t.moves(x, x), -1);
    }
  }

  private static void pictures() {
    for (int none : PARTINGS_NONE) {
      refused("P21 parting " + none, RefusalsTest::busy, t -> t.picture(none, 0, 0, 0), -1);
    }
    for (int none : KINDS_NONE) {
      refused("P21 kind " + none, RefusalsTest::busy, t -> t.picture(12, 0, 1, none), -1);
    }
    for (int none : new int[] {-1, 2, 3, LOWEST, HIGHEST}) {
      refused("P21 part " + none, RefusalsTest::busy, t -> t.picture(1, none, 0, 0), -1);
      refused("P21 to part " + none, RefusalsTest::busy, t -> t.picture(1, 0, none, 0), -1);
    }
  }

  private static void leastAndSpoils() {
    for (int what : new int[] {0, 2, 3, -1, LOWEST, HIGHEST}) {
      refused("P23 none " + what, RefusalsTest::busy, t -> t.least(0, what), -4);
      refused("P23 lowest " + what, RefusalsTest::busy, t -> t.least(LOWEST, what), -4);
      refused("P23 more " + what, RefusalsTest::busy, t -> t.least(4, what), -6);
      refused("P23 highest " + what, RefusalsTest::busy, t -> t.least(HIGHEST, what), -6);
    }
    for (int what : new int[] {3, -1, LOWEST, HIGHEST}) {
      refused("P23 what " + what, RefusalsTest::busy, t -> t.least(2, what), -2);
    }
    for (int what : new int[] {2, -1, LOWEST, HIGHEST}) {
      refusedBy("P24 what " + what, RefusalsTest::busy, t -> t.spoils(0, what), -2, 1000000002);
      refusedBy("P24 what, alone " + what, RefusalsTest::alone, t -> t.spoils(0, what), -2, 1000000002);
    }
    for (int none : PARTINGS_NONE) {
      refusedBy("P24 parting " + none, RefusalsTest::busy, t -> t.spoils(none, 0), -1, 1000000001);
      refusedBy("P24 parting ahead of what " + none, RefusalsTest::busy, t -> t.spoils(none, 2), -1, 1000000001);
      refusedBy("P24 parting, alone " + none, RefusalsTest::alone, t -> t.spoils(none, 1), -1, 1000000001);
    }
    refusedBy("P24 alone", RefusalsTest::alone, t -> t.spoils(0, 1), -3, 1000000003);
  }

  private static void newcomers() {
    for (int none : KINDS_NONE) {
      refused("P25 kind " + none, RefusalsTest::busy, t -> t.newcomer(none, 0, true), -1);
      refused("P25 a seventh of kind " + none, RefusalsTest::withSixHints, t -> t.newcomer(none, 0, true), -1);
    }
    for (int none : PERSONS_NONE) {
      refused("P25 to " + none, RefusalsTest::busy, t -> t.newcomer(0, none, true), -1);
      refused("P25 from " + none, RefusalsTest::busy, t -> t.newcomer(0, none, false), -1);
      refused("P25 a seventh to " + none, RefusalsTest::withSixHints, t -> t.newcomer(0, none, true), -1);
    }
    refused("P25 a seventh", RefusalsTest::withSixHints, t -> t.newcomer(2, 2, false), -6);
  }

  private static void years() {
    for (int none : SAMENESSES_NONE) {
      refused("P28 kind " + none, RefusalsTest::busy, t -> t.shift(0, 50, none), -1);
      refused("P28 kind ahead of years " + none, RefusalsTest::busy, t -> t.shift(-1, 101, none), -1);
      refused("P29 kind " + none, RefusalsTest::busy, t -> t.stays(0, none), -1);
      refused("P29 kind ahead of below " + none, RefusalsTest::busy, t -> t.stays(-1, none), -1);
      refused("P29 kind ahead of above " + none, RefusalsTest::busy, t -> t.stays(101, none), -1);
    }
    for (int y : new int[] {-1, LOWEST}) {
      refused("P28 from " + y, RefusalsTest::busy, t -> t.shift(y, 50, 1), -4);
      refused("P28 to " + y, RefusalsTest::busy, t -> t.shift(50, y, 1), -4);
      refused("P28 below ahead of above " + y, RefusalsTest::busy, t -> t.shift(y, 101, 1), -4);
      refused("P28 below ahead of above, turned " + y, RefusalsTest::busy, t -> t.shift(101, y, 1), -4);
      refused("P29 from " + y, RefusalsTest::busy, t -> t.stays(y, 1), -4);
    }
    for (int y : new int[] {101, HIGHEST}) {
      refused("P28 from " + y, RefusalsTest::busy, t -> t.shift(y, 50, 1), -6);
      refused("P28 to " + y, RefusalsTest::busy, t -> t.shift(50, y, 1), -6);
      refused("P29 from " + y, RefusalsTest::busy, t -> t.stays(y, 1), -6);
    }
  }

  /** Refusals of several numbers in one town are counted apart; no call tells -5. */
  private static void neverMinusFive() {
    SameParts t = alone();
    t.untie(0);
    t.least(1, 3);
    t.spoils(0, 2);
    t.spoils(0, 1);
    t.spoils(0, 1);
    t.spoils(0, 1);
    t.year(-1);
    t.year(-1);
    t.persons(0);
    t.persons(-1);
    for (int i = 0; i < 6; i++) {
      t.year(101);
    }
    int[] want = {1, 2, 3, 4, 0, 6};
    for (int i = 0; i < 6; i++) {
      due("P30 refusals " + (-1 - i), t.count(11 + i), want[i]);
    }
    t.persons(2);
    due("P2 another town leaves the refusals", t.count(16), 6);
  }

  // -- Questions

  private static void unchanged(String call, ToIntFunction<SameParts> ask) {
    SameParts t = busy();
    int answer = ask.applyAsInt(t);
    due(call + " answers the same again", ask.applyAsInt(t), answer);
    for (int what = 11; what <= 16; what++) {
      due(call + ", count " + what, t.count(what), 0);
    }
    due(call + " changed nothing", allOf(t).equals(allOf(busy())) ? 1 : 0, 1);
  }

  private static void questionsChangeNothing() {
    unchanged("P8 tie", t -> t.tie(2, 2, 0));
    unchanged("P9 degree", t -> t.degree(1, 2, true));
    unchanged("P10 parting", t -> t.parting(12));
    for (int kind = 0; kind < 5; kind++) {
      int by = kind;
      unchanged("P11 judge", t -> t.judge(0, by));
      unchanged("P12 coarsest", t -> t.coarsest(0, by));
      unchanged("P17 next", t -> t.next(by, -1));
      unchanged("P17 next behind the last", t -> t.next(by, 12));
      unchanged("P18 all", t -> t.all(by));
      unchanged("P28 shift", t -> t.shift(0, 100, by));
      unchanged("P29 stays", t -> t.stays(0, by));
    }
    unchanged("P13 renamings", SameParts::renamings);
    unchanged("P14 moves", t -> t.moves(0, 2));
    unchanged("P15 orbits", SameParts::orbits);
    unchanged("P16 form", SameParts::form);
    unchanged("P19 join", t -> t.join(1, 10));
    unchanged("P20 meet", t -> t.meet(1, 10));
    unchanged("P21 picture", t -> t.picture(1, 0, 1, 1));
    unchanged("P22 wrong", t -> t.wrong(0));
    unchanged("P23 least", t -> t.least(2, 2));
    unchanged("P24 spoils", t -> t.spoils(0, 0));
    unchanged("P24 spoils, by how much", t -> t.spoils(0, 1));
    unchanged("P26 fits", t -> t.fits(12));
    unchanged("P30 count", t -> t.count(2));
    unchanged("P30 count of none", t -> t.count(99));
  }
}
