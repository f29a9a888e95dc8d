import java.math.BigInteger;

/**
 * Each sentence of the document that names an edge (least, greatest, empty, full, one more than full, a number that
 * goes round), a method for each, in the document's order. What a refused call leaves is RefusalsTest's.
 */
public final class EdgesTest {
  private static final int LOWEST = Integer.MIN_VALUE;
  private static final int HIGHEST = Integer.MAX_VALUE;
  private static final String LETTERS = "abcdefg";
  /** How many partings 0, 1, .. 7 persons have. */
  private static final int[] PARTINGS = {0, 1, 2, 5, 15, 52, 203, 877};
  /** 59 bytes, the most ties that a text can tell. */
  private static final String TWELVE = "a>b0;a>b0;a>b0;a>b0;a>b0;a>b0;a>b0;a>b0;a>b0;a>b0;a>b0;a>b0";
  private static final Check CHECK = new Check();

  private EdgesTest() { }

  public static void main(String[] args) {
    objects();
    personsAndMarks();
    tiesAndYears();
    texts();
    faults();
    partings();
    samenesses();
    turns();
    manyPartings();
    pictures();
    wrongs();
    newcomers();
    years();
    counts();
    CHECK.end("EdgesTest");
  }

  private static void due(String call, long got, long want) {
    CHECK.due(call, got, want);
  }

  // -- The object

  private static void objects() {
    lastCallThatIsPromised();
    callsBeyondThatEnd();
    objectsShareNothing();
  }

  /** "An object is used for at most 512 calls after it has been made" */
  private static void lastCallThatIsPromised() {
    SameParts t = new SameParts();
    for (int call = 1; call <= 511; call++) {
      t.untie(call);
    }
    due("the 512th call", t.count(11), 511);
  }

  /** "what later calls answer is free": but LANGUAGE.md's rule 7 lets none of them throw. */
  private static void callsBeyondThatEnd() {
    SameParts t = Check.town(7, TWELVE);
    int ended = 0;
    for (int call = 0; call < 5000; call++) {
      int odd = call % 3 == 0 ? HIGHEST : call % 3 == 1 ? LOWEST : call;
      t.feed(odd, odd);
      t.ties();
      t.untie(odd);
      t.newcomer(odd, odd, true);
      t.newcomer(call % 3, call % 7, false);
      t.fits(odd);
      t.picture(odd, odd, odd, odd);
      t.least(odd, odd);
      t.next(odd, odd);
      t.shift(odd, odd, odd);
      ended++;
    }
    due("calls beyond the 512th end", ended, 5000);
  }

  private static void objectsShareNothing() {
    SameParts one = Check.town(2, "a>b0");
    one.mark(0, 3);
    one.year(9);
    one.newcomer(0, 0, true);
    one.feed(2, 97);
    one.untie(7);
    SameParts other = new SameParts();
    due("another object's persons", other.count(0), 4);
    for (int what : new int[] {1, 2, 3, 4, 5, 11}) {
      due("another object's count " + what, other.count(what), 0);
    }
    due("another object's mark", other.mark(0, 0), 0);
  }

  // -- I. Persons, marks

  private static void personsAndMarks() {
    fourAtFirst();
    anyFromOneToSeven();
    noneAndEight();
    marksAreZeroAtFirst();
    marksFromZeroToThree();
    marksBeyond();
    marksOfNobody();
    aNewTownIsEmpty();
    ofALargerTownNothingIsLeft();
  }

  /** "7 at most (told how many: 1 .. 7; 4 at first)" */
  private static void fourAtFirst() {
    SameParts t = new SameParts();
    due("P1 four at first", t.count(0), 4);
    due("P1 the fourth is there", t.degree(0, 3, true), 0);
    due("P1 a fifth is not", t.degree(0, 4, true), -1);
    due("P1 what it was", t.persons(4), 4);
  }

  private static void anyFromOneToSeven() {
    SameParts t = new SameParts();
    int before = 4;
    for (int n = 1; n <= 7; n++) {
      due("P2 persons " + n, t.persons(n), before);
      due("P2 the last of " + n, t.degree(0, n - 1, false), 0);
      due("P2 none behind the last of " + n, t.degree(0, n, false), -1);
      before = n;
    }
  }

  private static void noneAndEight() {
    SameParts t = new SameParts();
    for (int n : new int[] {0, -1, LOWEST}) {
      due("P2 persons " + n, t.persons(n), -4);
    }
    for (int n : new int[] {8, 9, HIGHEST}) {
      due("P2 persons " + n, t.persons(n), -6);
    }
    due("P2 four still", t.count(0), 4);
  }

  /** "each with a MARK (0 .. 3; 0 at first)" */
  private static void marksAreZeroAtFirst() {
    SameParts t = Check.town(7, "");
    for (int x = 0; x < 7; x++) {
      due("P3 at first the mark of " + x, t.mark(x, 3), 0);
    }
    t.persons(7);
    for (int x = 0; x < 7; x++) {
      due("P2 marks are none any more: " + x, t.mark(x, 1), 0);
    }
  }

  private static void marksFromZeroToThree() {
    SameParts t = Check.town(7, "");
    for (int x = 0; x < 7; x += 6) {
      for (int v = 0; v <= 3; v++) {
        due("P3 mark " + v + " of " + x, t.mark(x, v), Math.max(0, v - 1));
      }
      due("P3 back from 3", t.mark(x, 0), 3);
    }
  }

  private static void marksBeyond() {
    SameParts t = Check.town(1, "");
    t.mark(0, 2);
    for (int v : new int[] {4, 5, HIGHEST}) {
      due("P3 mark " + v, t.mark(0, v), -6);
    }
    for (int v : new int[] {-1, LOWEST}) {
      due("P3 mark " + v, t.mark(0, v), -4);
    }
    due("P3 it is 2 still", t.mark(0, 0), 2);
  }

  private static void marksOfNobody() {
    SameParts t = Check.town(7, "");
    for (int x : new int[] {-1, 7, LOWEST, HIGHEST}) {
      due("P3 mark of " + x, t.mark(x, 1), -1);
    }
    t.persons(1);
    due("P3 mark of b in a town of one", t.mark(1, 1), -1);
  }

  /** "TIES and MARKS are none any more, THE NEWCOMER, too": for a number that is as it was, too. */
  private static void aNewTownIsEmpty() {
    SameParts t = Check.town(2, "a>b0;b>a2");
    t.mark(1, 2);
    t.newcomer(0, 0, true);
    due("P2 two are two again", t.persons(2), 2);
    due("P2 no ties told", t.count(1), 0);
    due("P2 no ties there", t.count(2), 0);
    due("P2 nothing to untie", t.untie(0), -1);
    due("P2 no newcomer's ties", t.gone(), 0);
    due("P2 no mark", t.mark(1, 0), 0);
  }

  /** However large the town ahead was, and whatever was asked of it. */
  private static void ofALargerTownNothingIsLeft() {
    for (int n = 1; n <= 6; n++) {
      SameParts t = Check.town(7, "a>g0;b>g0;g>a1;f>g2*9;e>f0;d>e0;c>d0");
      Check.say(t, "g>f1;g>e1;g>d1;g>c1;g>b1;f>e2;f>d2*8");
      for (int x = 0; x < 7; x++) {
        t.mark(x, 3 - x / 2);
      }
      askAllOf(t, 7);
      t.join(12340, 123445);
      t.coarsest(123456, 4);
      t.parting(1111111);
      t.persons(n);
      due("P2 " + n + " of 7 persons are as new ones", askAllOf(t, n), askAllOf(Check.town(n, ""), n));
      Check.say(t, "a>b0");
      due("P2 and so with a tie", askAllOf(t, n), askAllOf(Check.town(n, n > 1 ? "a>b0" : ""), n));
    }
  }

  /** What all questions answer, as one number. */
  private static long askAllOf(SameParts t, int n) {
    long sum = t.renamings();
    int last = n - 1;
    int finest = Integer.parseInt("0123456".substring(0, n));
    int[] partings = {0, n > 1 ? 1 : 0, finest};
    for (int parting : partings) {
      int[] answers = {t.parting(parting), t.wrong(parting), t.fits(parting), t.picture(parting, 0, 0, 1),
        t.spoils(parting, 0), t.spoils(parting, 1), t.join(parting, partings[1]), t.meet(parting, partings[1]),
        t.form(), t.orbits(), t.moves(0, last), t.count(2), t.degree(1, last, true), t.degree(1, last, false)};
      for (int answer : answers) {
        sum = 31 * sum + answer;
      }
      for (int kind = 0; kind <= 4; kind++) {
        sum = 31 * sum + t.coarsest(parting, kind);
        sum = 31 * sum + t.judge(parting, kind);
        sum = 31 * sum + t.next(kind, parting);
        sum = 31 * sum + t.all(kind);
        sum = 31 * sum + t.shift(0, 100, kind);
        sum = 31 * sum + t.stays(0, kind);
      }
    }
    for (int k = 1; k <= n; k++) {
      for (int what = 0; what <= 2; what++) {
        sum = 31 * sum + t.least(k, what);
      }
    }
    return sum;
  }

  // -- I. Ties, years

  private static void tiesAndYears() {
    theYearIsZeroAtFirst();
    theYearFromZeroToHundred();
    kindsFromZeroToTwo();
    strengthsFromOneToNine();
    aTieIsThereFromAndTill();
    theTieToldLast();
    sixtyTies();
    untieFirstAndLast();
    tiesAreToAnotherOne();
    degreeOfAll();
  }

  /** "THE YEAR is 0 at first" */
  private static void theYearIsZeroAtFirst() {
    SameParts t = new SameParts();
    due("P1 count of the year", t.count(3), 0);
    due("P4 what it was", t.year(100), 0);
  }

  private static void theYearFromZeroToHundred() {
    SameParts t = new SameParts();
    int before = 0;
    for (int y = 0; y <= 100; y++) {
      due("P4 year " + y, t.year(y), before);
      before = y;
    }
    for (int y : new int[] {101, 102, HIGHEST}) {
      due("P4 year " + y, t.year(y), -6);
    }
    for (int y : new int[] {-1, LOWEST}) {
      due("P4 year " + y, t.year(y), -4);
    }
    due("P4 it is 100 still", t.count(3), 100);
  }

  /** "TIES have KINDS 0 .. 2" */
  private static void kindsFromZeroToTwo() {
    SameParts t = Check.town(2, "a>b0*1;a>b1*2;a>b2*3");
    for (int kind = 0; kind <= 2; kind++) {
      due("P8 kind " + kind, t.tie(kind, 0, 1), kind + 1);
      due("P9 kind " + kind, t.degree(kind, 0, false), 1);
      due("P21 kind " + kind, t.picture(1, 0, 1, kind), 1);
      due("P25 kind " + kind, t.newcomer(kind, 0, true), kind + 1);
    }
    for (int kind : new int[] {-1, 3, LOWEST, HIGHEST}) {
      due("P8 kind " + kind, t.tie(kind, 0, 1), -1);
      due("P9 kind " + kind, t.degree(kind, 0, false), -1);
      due("P21 kind " + kind, t.picture(1, 0, 1, kind), -1);
      due("P25 kind " + kind, t.newcomer(kind, 0, true), -1);
    }
  }

  /** "a STRENGTH (1 .. 9)", "1 without" */
  private static void strengthsFromOneToNine() {
    SameParts t = Check.town(2, "b>a2");
    due("P8 no strength told", t.tie(2, 1, 0), 1);
    for (int strength = 1; strength <= 9; strength++) {
      Check.say(t, "a>b0*" + strength);
      due("P8 strength " + strength, t.tie(0, 0, 1), strength);
    }
    due("P8 none there", t.tie(1, 0, 1), 0);
    due("P6 strength 0", Check.say(t, "a>b0*0"), -25);
  }

  private static void dueInYears(String text, int[] years, int[] strengths) {
    SameParts t = Check.town(2, text);
    for (int i = 0; i < years.length; i++) {
      t.year(years[i]);
      due("P8 " + text + " on " + years[i], t.tie(0, 0, 1), strengths[i]);
    }
  }

  /** "from a YEAR till ahead of another one (0 .. 100)", "from then or earlier and till later" */
  private static void aTieIsThereFromAndTill() {
    dueInYears("a>b0*4@5-8", new int[] {4, 5, 7, 8, 100}, new int[] {0, 4, 4, 0, 0});
    dueInYears("a>b0*4@0-1", new int[] {0, 1}, new int[] {4, 0});
    dueInYears("a>b0*4@99-100", new int[] {98, 99, 100}, new int[] {0, 4, 0});
    dueInYears("a>b0*4@0-100", new int[] {0, 99, 100}, new int[] {4, 4, 0});
    dueInYears("a>b0*4", new int[] {0, 99, 100}, new int[] {4, 4, 0});
  }

  /** "of several the one told last tells its STRENGTH": of those that are there that year. */
  private static void theTieToldLast() {
    SameParts t = Check.town(2, "a>b0*9;a>b0*3;a>b0*5@1-2;a>b1*7;b>a0*8");
    due("P8 the last of two", t.tie(0, 0, 1), 3);
    t.year(1);
    due("P8 the third one on its year", t.tie(0, 0, 1), 5);
    t.untie(2);
    due("P8 and when it is none any more", t.tie(0, 0, 1), 3);
    due("P30 they are one tie", t.count(2), 3);
    due("P9 they are one tie", t.degree(0, 0, false), 1);
  }

  /** "60 TIES at most" */
  private static void sixtyTies() {
    SameParts t = Check.town(2, "");
    for (int i = 1; i <= 5; i++) {
      due("P6 twelve more", Check.say(t, TWELVE), 12 * i);
    }
    due("P6 the 61st", Check.say(t, "b>a0"), -6);
    due("P6 the tape has none", t.count(4), 0);
    due("P7 the 60th", t.untie(59), 1);
    due("P6 two have no room for one", Check.say(t, "b>a0;b>a0"), -6);
    due("P6 nothing is told", t.count(1), 59);
    due("P8 not the first of them either", t.tie(0, 1, 0), 0);
    due("P6 one more has room", Check.say(t, "b>a0"), 60);
    due("P8 it is there", t.tie(0, 1, 0), 1);
    due("P7 it is the 60th", t.untie(59), 1);
    due("P8 no more", t.tie(0, 1, 0), 0);
    due("P30 no room two times", t.count(16), 2);
  }

  /** "later ones are one less" */
  private static void untieFirstAndLast() {
    SameParts t = Check.town(2, "");
    due("P7 none is told", t.untie(0), -1);
    Check.say(t, "a>b0*1;a>b0*2;a>b0*3");
    due("P7 one behind the last", t.untie(3), -1);
    due("P7 one ahead of the first", t.untie(-1), -1);
    due("P7 the last", t.untie(2), 1);
    due("P8 the second is the last", t.tie(0, 0, 1), 2);
    due("P7 the first", t.untie(0), 1);
    due("P7 the second is the first", t.untie(1), -1);
    due("P8 it is there", t.tie(0, 0, 1), 2);
    due("P7 the only one", t.untie(0), 1);
    due("P30 none is told", t.count(1), 0);
  }

  /** "of one person to another one", "-1 (one twice, too)" */
  private static void tiesAreToAnotherOne() {
    SameParts t = Check.town(7, "a>g0*2;g>a0*3");
    due("P8 the first to the last", t.tie(0, 0, 6), 2);
    due("P8 the last to the first", t.tie(0, 6, 0), 3);
    for (int x = 0; x < 7; x++) {
      due("P8 one twice " + x, t.tie(0, x, x), -1);
    }
    due("P8 behind the last", t.tie(0, 7, 0), -1);
    due("P8 to one behind the last", t.tie(0, 0, 7), -1);
    due("P8 ahead of the first", t.tie(0, -1, 0), -1);
    due("P8 to one ahead of the first", t.tie(0, 0, -1), -1);
    due("P8 highest", t.tie(0, HIGHEST, LOWEST), -1);
  }

  private static void degreeOfAll() {
    SameParts t = Check.town(7, "a>g0;b>g0;c>g0;d>g0;e>g0;f>g0;g>a1");
    due("P9 six come to g", t.degree(0, 6, true), 6);
    due("P9 none is of g", t.degree(0, 6, false), 0);
    due("P9 but one of another kind", t.degree(1, 6, false), 1);
    t.persons(1);
    due("P9 alone", t.degree(0, 0, false), 0);
    due("P9 to one alone", t.degree(0, 0, true), 0);
  }

  // -- I. The tape and its text

  private static void texts() {
    bytesOneToEight();
    bytesNoneAndNine();
    sixtyBytes();
    theLowestFirst();
    aTextOfAllTheTape();
    anEmptyTape();
    yearsOfOneToThreeDigits();
    allLetters();
  }

  /** "n (1 .. 8) bytes come" */
  private static void bytesOneToEight() {
    int sum = 0;
    SameParts t = new SameParts();
    for (int n = 1; n <= 8; n++) {
      sum += n;
      due("P5 feed " + n, t.feed(n, -1L), sum);
    }
    due("P30 bytes on the tape", t.count(4), 36);
  }

  private static void bytesNoneAndNine() {
    SameParts t = new SameParts();
    for (int n : new int[] {0, -1, LOWEST}) {
      due("P5 feed " + n, t.feed(n, 97), -4);
    }
    for (int n : new int[] {9, 10, HIGHEST}) {
      due("P5 feed " + n, t.feed(n, 97), -6);
    }
    due("P5 nothing came", t.count(4), 0);
  }

  /** "above 60" */
  private static void sixtyBytes() {
    SameParts t = Check.town(2, "");
    Check.put(t, TWELVE.substring(0, 54));
    due("P5 54", t.count(4), 54);
    due("P5 61 are above", t.feed(7, 97), -6);
    due("P5 53 less none", t.count(4), 54);
    due("P5 60 are not", t.feed(6, Check.packed(";a>b0;")), 60);
    due("P5 61 one by one", t.feed(1, 97), -6);
    due("P5 none at all is told ahead", t.feed(0, 97), -4);
    due("P6 what came is as it was", t.ties(), -80);
    due("P5 there is room again", t.feed(8, 97), 8);
  }

  /** "the lowest first": up to the eighth, and none of those above n. */
  private static void theLowestFirst() {
    SameParts t = Check.town(2, "");
    t.feed(8, 0x61_3e_62_3b_30_62_3e_61L);
    t.feed(1, 0x7a_7a_7a_7a_7a_7a_7a_31L);
    due("P6 a>b0;b>a and 1", t.ties(), 2);
    due("P8 a>b0", t.tie(0, 0, 1), 1);
    due("P8 b>a1", t.tie(1, 1, 0), 1);
    t.feed(8, 0xff_3e_62_3b_30_62_3e_61L);
    due("P6 the eighth byte is 255", t.ties(), -27);
    t.feed(5, 0x80_30_62_3e_61L);
    due("P6 the fifth byte is 128", t.ties(), -24);
    t.feed(2, 0x62_61L);
    due("P6 the second of two", t.ties(), -21);
  }

  /** "A TEXT (60 bytes at most)" */
  private static void aTextOfAllTheTape() {
    String all = "a>b0*1;a>b0*2;a>b0*3;" + TWELVE.substring(0, 35) + "b>a1";
    SameParts t = Check.town(2, "");
    Check.put(t, all);
    due("P5 just 60 bytes", t.count(4), 60);
    due("P6 eleven ties of them", t.ties(), 11);
    due("P6 the last of them", t.tie(1, 1, 0), 1);
    due("P6 its last byte a fault", Check.say(t, TWELVE + "x"), -79);
    due("P6 the end of it, as a tie lacks", Check.say(t, TWELVE + ";"), -80);
    due("P6 the end of it, as a year lacks", Check.say(t, TWELVE.substring(0, 50) + "a>b0*1@10-"), -80);
    due("P6 a year that is its end", Check.say(t, TWELVE.substring(0, 50) + "a>b0@0-100"), 22);
    due("P6 a year at its end that is too small", Check.say(t, TWELVE.substring(0, 50) + "a>b0@10-10"), -78);
  }

  private static void anEmptyTape() {
    SameParts t = new SameParts();
    due("P6 nothing ever came", t.ties(), -20);
    t.feed(4, 0x30623e61);
    due("P6 one tie", t.ties(), 1);
    due("P6 nothing more came", t.ties(), -20);
    due("P30 one tie is told still", t.count(1), 1);
    t.feed(1, 97);
    t.ties();
    due("P6 a fault leaves nothing on the tape", t.ties(), -20);
  }

  /** "a YEAR (1 to 3 digits, 100 at most, the first below the second; 0 and 100 without)" */
  private static void yearsOfOneToThreeDigits() {
    SameParts t = Check.town(2, "");
    int told = 0;
    for (String years : new String[] {"0-1", "00-01", "000-001", "0-100", "99-100", "099-100", "9-10", "0-099"}) {
      told++;
      due("P6 years " + years, Check.say(t, "a>b0@" + years), told);
    }
    due("P6 no digit", Check.say(t, "a>b0@-1"), -25);
    due("P6 no second digit", Check.say(t, "a>b0@0-"), -27);
    due("P6 four digits", Check.say(t, "a>b0@0000-1"), -28);
    due("P6 four second digits", Check.say(t, "a>b0@0-0001"), -27);
    due("P6 four second digits, the three are a year", Check.say(t, "a>b0@0-0010"), -30);
  }

  /** "a letter": of each person that there is, and of no other. */
  private static void allLetters() {
    for (int n = 1; n <= 7; n++) {
      for (int x = 0; x < 7; x++) {
        for (int z = 0; z < 7; z++) {
          SameParts t = Check.town(n, "");
          int want = x >= n ? -20 : z >= n || x == z ? -22 : 1;
          due("P6 " + x + " to " + z + " of " + n,
              Check.say(t, "" + LETTERS.charAt(x) + '>' + LETTERS.charAt(z) + '2'), want);
        }
      }
    }
  }

  // -- I. Faults

  private static void faults() {
    theEndIfSomethingLacks();
    aByteThatCanNotStand();
    bytesNextToThoseThatCan();
    aYearAboveHundred();
    aYearNotAboveTheFirst();
    oneAlone();
    aFaultIsAheadOfRoom();
    nothingIsToldByAFault();
  }

  private static void fault(int persons, String text, int place) {
    SameParts t = Check.town(persons, "");
    due("P6 " + persons + " persons: " + text, Check.say(t, text), -20 - place);
  }

  /** "the end, if something lacks": behind each part of a whole text. */
  private static void theEndIfSomethingLacks() {
    String whole = "a>b0*3@10-20;b>a1";
    String mayEnd = " 4 6 12 17 ";
    for (int size = 0; size <= whole.length(); size++) {
      SameParts t = Check.town(2, "");
      String text = whole.substring(0, size);
      // A second year of one digit is not above 10, so it is a fault by itself.
      int want = size == 17 ? 2 : mayEnd.contains(" " + size + " ") ? 1 : size == 11 ? -30 : -20 - size;
      due("P6 " + text, Check.say(t, text), want);
    }
  }

  /** "the place of the first byte that can not stand" */
  private static void aByteThatCanNotStand() {
    String whole = "a>b0*3@10-20;b>a1";
    for (int place = 0; place <= whole.length(); place++) {
      for (char odd : new char[] {'!', 'x', (char) 0, (char) 255}) {
        String tail = place < whole.length() ? whole.substring(place + 1) : "";
        // The second year's second digit: the one ahead of it is a year that is not above the first.
        fault(2, whole.substring(0, place) + odd + tail, place == 11 ? 10 : place);
      }
    }
  }

  private static void bytesNextToThoseThatCan() {
    fault(7, "`>b0", 0);
    fault(7, "h>b0", 0);
    fault(7, "A>b0", 0);
    fault(7, "a=b0", 1);
    fault(7, "a?b0", 1);
    fault(7, "a>`0", 2);
    fault(7, "a>h0", 2);
    fault(7, "a>b/", 3);
    fault(7, "a>b3", 3);
    fault(7, "a>b0)", 4);
    fault(7, "a>b0+", 4);
    fault(7, "a>b0*0", 5);
    fault(7, "a>b0*/", 5);
    fault(7, "a>b0*:", 5);
    fault(7, "a>b0?1-2", 4);
    fault(7, "a>b0A1-2", 4);
    fault(7, "a>b0@/-2", 5);
    fault(7, "a>b0@:-2", 5);
    fault(7, "a>b0@1,2", 6);
    fault(7, "a>b0@1.2", 6);
    fault(7, "a>b0@1-/", 7);
    fault(7, "a>b0@1-:", 7);
    fault(7, "a>b0:b>a0", 4);
    fault(7, "a>b0<b>a0", 4);
    fault(7, "a>b0@1-2*3", 8);
    fault(7, "a>b0*1*2", 6);
    fault(7, "a>b0@1-2@3-4", 8);
    fault(7, "a>b0*10", 6);
  }

  /** "of a YEAR above 100 .. its first digit" */
  private static void aYearAboveHundred() {
    fault(2, "a>b0@101-102", 5);
    fault(2, "a>b0@101", 5);
    fault(2, "a>b0@999-1", 5);
    fault(2, "a>b0@1010-1", 5);
    fault(2, "a>b0@0-101", 7);
    fault(2, "a>b0@0-999", 7);
    fault(2, "a>b0@0-1010", 7);
    fault(2, "a>b0@100-101", 9);
    fault(2, "a>b0;b>a0*2@050-110", 16);
    fault(2, "a>b0@1000-1", 8);
    fault(2, "a>b0@0-1000", 10);
  }

  /** "or that is not above the first, its first digit" */
  private static void aYearNotAboveTheFirst() {
    fault(2, "a>b0@0-0", 7);
    fault(2, "a>b0@1-0", 7);
    fault(2, "a>b0@000-000", 9);
    fault(2, "a>b0@99-99", 8);
    fault(2, "a>b0@100-100", 9);
    fault(2, "a>b0@100-99", 9);
    fault(2, "a>b0@10-9", 8);
    fault(2, "a>b0@9-009;x", 7);
    fault(2, "a>b0@2-1x", 7);
    SameParts t = Check.town(2, "");
    due("P6 just above the first", Check.say(t, "a>b0@98-99;a>b0@99-100;a>b0@0-1"), 3);
  }

  /** Of one person alone nothing can be told. */
  private static void oneAlone() {
    fault(1, "", 0);
    fault(1, "a", 1);
    fault(1, "a>", 2);
    fault(1, "a>a0", 2);
    fault(1, "a>b0", 2);
    fault(1, "b>a0", 0);
  }

  /** "or, if it has a FAULT, -20 less its place"; "-6 no room for all" */
  private static void aFaultIsAheadOfRoom() {
    SameParts t = Check.town(2, "");
    for (int i = 0; i < 5; i++) {
      Check.say(t, TWELVE);
    }
    due("P6 a fault in a full town", Check.say(t, "a>b0;a>b3"), -28);
    due("P6 an empty text in a full town", t.ties(), -20);
    due("P30 no refusals by faults", t.count(16), 0);
    due("P6 no fault in a full town", Check.say(t, "a>b0"), -6);
    due("P30 a refusal by that", t.count(16), 1);
  }

  private static void nothingIsToldByAFault() {
    SameParts t = Check.town(2, "a>b0");
    due("P6 a fault behind two ties", Check.say(t, "b>a0;b>a1;b>"), -32);
    due("P30 one is told still", t.count(1), 1);
    due("P8 the first of the two is none", t.tie(0, 1, 0), 0);
    due("P30 the tape has none", t.count(4), 0);
    due("P6 and the next text is as it is", Check.say(t, "b>a2"), 2);
    due("P8 told behind the one ahead", t.tie(2, 1, 0), 1);
  }

  // -- II. Partings

  private static void partings() {
    asManyDigitsAsPersons();
    partsNumberedAsTheyCome();
    allNumbersOfFewPersons();
    wholeAndSingle();
  }

  /** "a number of as many digits as there are PERSONS (0 ahead count, too)" */
  private static void asManyDigitsAsPersons() {
    int finest = 0;
    SameParts t = new SameParts();
    for (int n = 1; n <= 7; n++) {
      t.persons(n);
      finest = 10 * finest + n - 1;
      due("P10 all in one of " + n, t.parting(0), 1);
      due("P10 each alone of " + n, t.parting(finest), n);
      due("P10 a new part too many of " + n, t.parting(finest + 1), -1);
      due("P10 one digit too many of " + n, t.parting(10 * finest + n), -1);
    }
  }

  /** "PARTS numbered as they come (a's is 0, a new one is the least number that did not come)" */
  private static void partsNumberedAsTheyCome() {
    SameParts t = Check.town(4, "");
    due("P10 a's is 1", t.parting(1000), -1);
    due("P10 b's is 2", t.parting(200), -1);
    due("P10 c's is 2, 1 did not come", t.parting(20), -1);
    due("P10 c's is 2 behind 1", t.parting(120), 3);
    due("P10 d's is 3, 2 did not come", t.parting(13), -1);
    due("P10 d's is 3 behind 2", t.parting(123), 4);
    due("P10 below", t.parting(-1), -1);
    due("P10 below by digits", t.parting(-123), -1);
    due("P10 lowest", t.parting(LOWEST), -1);
    due("P10 highest", t.parting(HIGHEST), -1);
  }

  private static void allNumbersOfFewPersons() {
    for (int n = 1; n <= 5; n++) {
      int partings = 0;
      SameParts t = Check.town(n, "");
      for (int number = -1; number <= 12346; number++) {
        if (number % 500 == 0) {
          t = Check.town(n, "");
        }
        partings += t.parting(number) > 0 ? 1 : 0;
      }
      due("P10 how many partings of " + n, partings, PARTINGS[n]);
    }
  }

  /** "(each may be one of them)": of all in one, each alone, and one's own. */
  private static void wholeAndSingle() {
    SameParts t = Check.town(7, "");
    due("P19 all in one", t.join(0, 123456), 0);
    due("P19 each alone", t.join(123456, 123456), 123456);
    due("P19 the coarser one", t.join(123456, 12034), 12034);
    due("P19 and the other way", t.join(12034, 123456), 12034);
    due("P19 itself", t.join(12034, 12034), 12034);
    due("P20 each alone", t.meet(0, 123456), 123456);
    due("P20 all in one", t.meet(0, 0), 0);
    due("P20 the finer one", t.meet(0, 12034), 12034);
    due("P20 and the other way", t.meet(12034, 0), 12034);
    due("P20 itself", t.meet(12034, 12034), 12034);
    due("P19 the last one with the first two", t.join(12345, 123450), 12340);
    due("P20 the last one with neither", t.meet(12340, 12345), 12345);
    due("P19 one digit too many", t.join(11111, 1222222), -1);
    t.persons(1);
    due("P19 one alone", t.join(0, 0), 0);
    due("P20 one alone", t.meet(0, 0), 0);
    due("P19 no other part", t.join(0, 1), -1);
    due("P20 no other part", t.meet(1, 0), -1);
  }

  // -- II. Samenesses

  private static void samenesses() {
    kindsFromZeroToFour();
    nobodyToCompare();
    theFirstPair();
    theLastPair();
    sameLooksAtTheOthersOnly();
    eachKindAndWay();
    asManyToEachPart();
    asManyAsThereMayBe();
    coarsestOfTheEnds();
    tillNothingSplits();
  }

  private static void kindsFromZeroToFour() {
    SameParts t = Check.town(2, "");
    for (int kind = 0; kind <= 4; kind++) {
      due("P11 kind " + kind, t.judge(0, kind), -9);
      due("P12 kind " + kind, t.coarsest(0, kind), 0);
      due("P17 kind " + kind, t.next(kind, 0), 1);
      due("P18 kind " + kind, t.all(kind), 2);
      due("P28 kind " + kind, t.shift(0, 0, kind), 0);
      due("P29 kind " + kind, t.stays(0, kind), 101);
    }
    for (int kind : new int[] {-1, 5, LOWEST, HIGHEST}) {
      due("P11 kind " + kind, t.judge(0, kind), -1);
      due("P12 kind " + kind, t.coarsest(0, kind), -1);
      due("P17 kind " + kind, t.next(kind, 0), -1);
      due("P18 kind " + kind, t.all(kind), -1);
      due("P28 kind " + kind, t.shift(0, 0, kind), -1);
      due("P29 kind " + kind, t.stays(0, kind), -1);
    }
  }

  /** "-9 none" */
  private static void nobodyToCompare() {
    SameParts one = Check.town(1, "");
    SameParts seven = Check.town(7, "a>b0*2;b>c1;c>d2;e>a0");
    seven.mark(3, 2);
    for (int kind = 0; kind <= 4; kind++) {
      due("P11 one person", one.judge(0, kind), -9);
      due("P12 one person", one.coarsest(0, kind), 0);
      due("P11 each alone", seven.judge(123456, kind), -9);
      due("P12 each alone", seven.coarsest(123456, kind), 123456);
    }
  }

  /** "the first pair (by x, then y above x) that is not, as 10 x and y" */
  private static void theFirstPair() {
    SameParts t = Check.town(7, "");
    t.mark(0, 1);
    due("P11 a and b", t.judge(0, 0), 1);
    t.mark(1, 1);
    due("P11 a and c", t.judge(0, 0), 2);
    due("P11 a's pairs are told ahead of b's", t.judge(12, 0), 2);
    due("P11 b alone is in no pair", t.judge(100000, 0), 2);
    due("P11 but are first if a is alone", t.judge(111111, 0), 12);
  }

  private static void theLastPair() {
    SameParts t = Check.town(7, "");
    t.mark(6, 3);
    due("P11 f and g", t.judge(123455, 0), 56);
    due("P11 a and g", t.judge(123450, 0), 6);
    due("P11 the others with a", t.judge(1, 0), -9);
  }

  /** "for each other person z": what x and y have to each other counts only as "x to y just if y to x". */
  private static void sameLooksAtTheOthersOnly() {
    SameParts t = Check.town(3, "a>b0*2;b>a0*2;a>c1*3;b>c1*3");
    due("P11 same", t.judge(1, 1), -9);
    due("P11 twins", t.judge(1, 2), -9);
    Check.say(t, "b>a0*1");
    due("P11 same of other strengths", t.judge(1, 1), -9);
    due("P11 no twins", t.judge(1, 2), 1);
    Check.say(t, "b>a0*2;c>a2*9;c>b2*8");
    due("P11 same of others' strengths", t.judge(1, 1), -9);
    due("P11 no twins by others' strengths", t.judge(1, 2), 1);
    Check.say(t, "b>a1");
    due("P11 not back in one kind", t.judge(1, 1), 1);
  }

  /** A TIE of one KIND and way is none of another: two with one each to or from a third are so just if these are one. */
  private static void eachKindAndWay() {
    String[] ties = {"?>c0", "?>c1", "?>c2", "c>?0", "c>?1", "c>?2"};
    for (String one : ties) {
      for (String other : ties) {
        String text = one.replace('?', 'a') + ";" + other.replace('?', 'b');
        SameParts t = Check.town(3, text);
        for (int kind = 1; kind <= 4; kind++) {
          due("P11 " + text + " by " + kind, t.judge(1, kind), one.equals(other) ? -9 : 1);
          due("P12 " + text + " by " + kind, t.coarsest(1, kind), one.equals(other) ? 1 : 12);
        }
      }
    }
  }

  /** "as many TIES to persons of it, and as many from": four to one part are not one to the next part. */
  private static void asManyToEachPart() {
    SameParts t = Check.town(7, "a>c0;a>d0;a>e0;a>f0;b>g0");
    due("P11 four to part 1, one to part 2", t.judge(11112, 4), 1);
    t = Check.town(7, "c>a0;d>a0;e>a0;f>a0;g>b0");
    due("P11 four from part 1, one from part 2", t.judge(11112, 4), 1);
    t = Check.town(7, "b>c0;b>d0;b>e0;b>f0;a>g0");
    due("P11 the other way round", t.judge(11112, 4), 1);
    t = Check.town(7, "a>c0;a>d0;a>e0;a>f0;a>g0;b>g1");
    due("P11 five of one kind, one of the next kind", t.judge(11111, 4), 1);
    due("P11 by LIKE no more", t.judge(11111, 3), 1);
  }

  /** COUNT: six ties of one to one part, one to each of six parts, and one less. */
  private static void asManyAsThereMayBe() {
    SameParts t = Check.town(7, "a>b0;a>c0;a>d0;a>e0;a>f0;a>g0");
    due("P11 b to g are counted alike", t.judge(111111, 4), -9);
    due("P12 b to g are one part", t.coarsest(0, 4), 111111);
    Check.say(t, "b>c0;b>d0;b>e0;b>f0;b>g0;b>a0");
    due("P12 a and b have six each", t.coarsest(0, 4), 11111);
    due("P11 as many to c .. g", t.judge(11111, 4), -9);
    t.untie(10);
    due("P11 b has one less", t.judge(11111, 4), 1);
    due("P11 but is like", t.judge(11111, 3), -9);
    due("P12 g has one less, too", t.coarsest(0, 4), 122223);
  }

  private static void coarsestOfTheEnds() {
    SameParts t = Check.town(7, "");
    for (int kind = 0; kind <= 4; kind++) {
      due("P12 no ties, all in one", t.coarsest(0, kind), 0);
      due("P12 not coarser than a told one", t.coarsest(12345, kind), 12345);
    }
    t.mark(0, 3);
    for (int kind = 0; kind <= 4; kind++) {
      due("P12 a's mark", t.coarsest(0, kind), 111111);
      due("P12 a's mark in a told one", t.coarsest(11, kind), 111122);
    }
  }

  /** "the PARTING is split again and again .. till nothing splits": six times for a chain of seven. */
  private static void tillNothingSplits() {
    SameParts t = Check.town(7, "a>b0;b>c0;c>d0;d>e0;e>f0;f>g0");
    due("P12 a chain by LIKE", t.coarsest(0, 3), 123456);
    due("P12 a chain by COUNT", t.coarsest(0, 4), 123456);
    Check.say(t, "g>a0");
    due("P12 a round by LIKE", t.coarsest(0, 3), 0);
    due("P12 a round by COUNT", t.coarsest(0, 4), 0);
    due("P12 a round from one told part", t.coarsest(1, 4), 123456);
  }

  // -- III. Turns

  private static void turns() {
    oneTurnAndAll();
    movesToItself();
    orbitsOfTheEnds();
    formOfNothing();
    formBeyondItsModulus();
    formOfTheFullest();
    formsOfTownsAlike();
    formByTheFirstKindFirst();
  }

  /** "ways to rename PERSONS (each to one, all at once)": that all stay is one of them. */
  private static void oneTurnAndAll() {
    int all = 1;
    SameParts t = new SameParts();
    for (int n = 1; n <= 7; n++) {
      all *= n;
      t.persons(n);
      due("P13 of " + n, t.renamings(), all);
    }
    t = Check.town(7, "a>b0;b>c0;c>d0;d>e0;e>f0;f>g0");
    due("P13 of a chain", t.renamings(), 1);
  }

  private static void movesToItself() {
    SameParts t = Check.town(7, "a>b0;b>c0;c>d0;d>e0;e>f0;f>g0");
    for (int x = 0; x < 7; x++) {
      due("P14 to itself " + x, t.moves(x, x), 1);
      due("P14 to the next " + x, t.moves(x, x + 1), x < 6 ? 0 : -1);
      due("P14 from the one ahead " + x, t.moves(x - 1, x), x > 0 ? 0 : -1);
    }
    due("P14 lowest", t.moves(LOWEST, 0), -1);
    due("P14 highest", t.moves(0, HIGHEST), -1);
    t.untie(5);
    t.untie(0);
    due("P14 the last to the first", t.moves(6, 0), 1);
    due("P14 the first to the last", t.moves(0, 6), 1);
  }

  private static void orbitsOfTheEnds() {
    due("P15 one", Check.town(1, "").orbits(), 0);
    due("P15 seven in one", Check.town(7, "").orbits(), 0);
    due("P15 seven alone", Check.town(7, "a>b0;b>c0;c>d0;d>e0;e>f0;f>g0").orbits(), 123456);
    due("P15 but two", Check.town(7, "b>c0;c>d0;d>e0;e>f0").orbits(), 123450);
  }

  private static int remainder(String row) {
    return new BigInteger(row).mod(BigInteger.valueOf(1000000007)).intValue();
  }

  private static void formOfNothing() {
    for (int n = 1; n <= 7; n++) {
      due("P16 of " + n, Check.town(n, "").form(), 0);
    }
  }

  /** "modulo 1000000007": of rows at it, above it, and a multiple of it. */
  private static void formBeyondItsModulus() {
    SameParts t = Check.town(2, "a>b0");
    // 00 0010 0000 0000, as b's tie to a is less than a's to b
    due("P16 the row is 1000000000", t.form(), 1000000000);
    Check.say(t, "b>a2");
    // 00 0010 0000 0100, as 00 0100 0000 0010 is more
    due("P16 the row is 1000000100", t.form(), 93);
    t = Check.town(3, "a>b0*4;c>b0*7;a>b2*4;c>a2*7");
    t.mark(1, 1);
    t.mark(2, 2);
    // Marks tell the order; 012 040000070 000000000 040000700 is a multiple of 1000000007.
    due("P16 the row is a multiple", remainder("012040000070000000000040000700"), 0);
    due("P16 so the form is 0", t.form(), 0);
  }

  /** All 42 pairs of seven persons, of the greatest strength, with the greatest marks: 154 digits. */
  private static void formOfTheFullest() {
    SameParts t = Check.town(7, "");
    StringBuilder row = new StringBuilder();
    for (int x = 0; x < 7; x++) {
      t.mark(x, 3);
      row.append('3');
    }
    for (int x = 0; x < 7; x++) {
      for (int z = 0; z < 7; z++) {
        row.append(x == z ? 0 : 9);
        if (x != z) {
          Check.say(t, "" + LETTERS.charAt(x) + '>' + LETTERS.charAt(z) + "0*9");
        }
      }
    }
    row.append("0".repeat(98));
    due("P30 all pairs", t.count(2), 42);
    due("P16 of all pairs", t.form(), remainder(row.toString()));
    due("P13 of all pairs", t.renamings(), 5040);
  }

  /** "of all ways to rename them the least row": so however a town's persons are named, it is the same one. */
  private static void formsOfTownsAlike() {
    formHoweverNamed("a>b0;b>c0;c>d0;d>e0", "00000");
    formHoweverNamed("a>b0*3;b>a0*2;c>a0*2;d>a0*5;e>c0*2", "00000");
    formHoweverNamed("a>b1;b>c1;c>a1;d>e2*4;e>d2*5", "00000");
    formHoweverNamed("a>b2*2;b>c2;c>d2*2;d>a2;e>a2*9;a>c1", "00000");
    formHoweverNamed("a>c0*2;a>d0*2;b>c0*2;b>d0*2;c>e1;d>e1*3", "00000");
    formHoweverNamed("a>b0;a>c0;b>c0;d>e0;e>a1*7;c>d1*7", "01010");
    formHoweverNamed("a>b0;c>d0;e>a0;b>e1;d>e1", "32123");
    formHoweverNamed("a>b0;c>d1;d>e1;e>c1;c>a1", "00000");
    formHoweverNamed("a>b0*3;d>c1*4;c>d1*5;e>b2*6", "00000");
    formHoweverNamed("a>b0;b>c0;c>d0;d>a0;a>e1;c>e1", "00000");
    due("P16 another strength, another form",
        Check.town(3, "a>b0*2").form() == Check.town(3, "a>b0*3").form() ? 1 : 0, 0);
    due("P16 another kind, another form", Check.town(3, "a>b0").form() == Check.town(3, "a>b1").form() ? 1 : 0, 0);
  }

  /** "then for each KIND": one tie of kind 0 tells the order, whatever would be least of kind 1. */
  private static void formByTheFirstKindFirst() {
    // c, b, a: 000 for the marks, then a's tie to b last, then c's two ahead.
    due("P16 one of kind 0, two of kind 1", Check.town(3, "a>b0;c>a1;c>b1").form(),
        remainder("000" + "000000010" + "011000000" + "000000000"));
    due("P16 one of kind 0, two of kind 2", Check.town(3, "b>c0;a>b2;a>c2").form(),
        remainder("000" + "000000010" + "000000000" + "011000000"));
    due("P16 two of kind 1, three of kind 2", Check.town(3, "c>a1;c>b1;a>b2;a>c2;b>c2").form(),
        remainder("000" + "000000000" + "000000110" + "001101000"));
  }

  private static void formHoweverNamed(String text, String marks) {
    SameParts first = renamed(text, marks, "abcde");
    int form = first.form();
    int turns = first.renamings();
    int orbits = first.parting(first.orbits());
    int named = 0;
    for (int number = 0; number <= 43210; number++) {
      String name = "" + number / 10000 + number / 1000 % 10 + number / 100 % 10 + number / 10 % 10 + number % 10;
      if (name.chars().filter(c -> c < '5').distinct().count() == 5) {
        named++;
        SameParts t = renamed(text, marks, letters(name));
        due("P16 " + text + " by " + name, t.form(), form);
        due("P13 " + text + " by " + name, t.renamings(), turns);
        due("P15 " + text + " by " + name, t.parting(t.orbits()), orbits);
        due("P14 " + text + " by " + name, whoMove(t), t.orbits());
      }
    }
    due("P16 all ways to name five", named, 120);
  }

  /** The parting of five persons by MOVES. */
  private static int whoMove(SameParts t) {
    int number = 0;
    int parts = 0;
    int[] part = new int[5];
    for (int x = 0; x < 5; x++) {
      part[x] = -1;
      for (int y = 0; y < x; y++) {
        if (t.moves(x, y) == 1) {
          part[x] = part[y];
        }
      }
      part[x] = part[x] < 0 ? parts++ : part[x];
      number = 10 * number + part[x];
    }
    return number;
  }

  private static String letters(String name) {
    StringBuilder letters = new StringBuilder();
    for (char digit : name.toCharArray()) {
      letters.append(LETTERS.charAt(digit - '0'));
    }
    return letters.toString();
  }

  private static SameParts renamed(String text, String marks, String names) {
    StringBuilder other = new StringBuilder();
    for (char sign : text.toCharArray()) {
      other.append(sign >= 'a' ? names.charAt(sign - 'a') : sign);
    }
    SameParts t = Check.town(5, other.toString());
    for (int x = 0; x < 5; x++) {
      t.mark(names.charAt(x) - 'a', marks.charAt(x) - '0');
    }
    return t;
  }

  // -- III. All partings

  private static void manyPartings() {
    fromTheFirstOn();
    behindTheLastOne();
    behindNumbersThatAreNone();
    howManyOfEach();
  }

  /** "-1: the first of all", "with a number above one" */
  private static void fromTheFirstOn() {
    SameParts t = Check.town(7, "");
    due("P17 the first of all", t.next(0, -1), 0);
    due("P17 above 0", t.next(0, 0), 1);
    due("P17 above 1", t.next(0, 1), 10);
    due("P17 below -1", t.next(0, -2), -4);
    due("P17 lowest", t.next(0, LOWEST), -4);
    t.mark(0, 1);
    due("P17 the first that is true", t.next(0, -1), 111111);
    due("P17 just below it", t.next(0, 111110), 111111);
    due("P17 just at it", t.next(0, 111111), 111112);
  }

  /** "-9 none" */
  private static void behindTheLastOne() {
    SameParts t = Check.town(7, "");
    due("P17 the last one", t.next(0, 123455), 123456);
    due("P17 behind it", t.next(0, 123456), -9);
    due("P17 far behind it", t.next(0, HIGHEST), -9);
    due("P30 that is no refusal", t.count(11) + t.count(14) + t.count(16), 0);
    t.persons(1);
    due("P17 the only one", t.next(0, -1), 0);
    due("P17 behind the only one", t.next(0, 0), -9);
  }

  private static void behindNumbersThatAreNone() {
    SameParts t = Check.town(3, "");
    due("P17 behind 2", t.next(0, 2), 10);
    due("P17 behind 9", t.next(0, 9), 10);
    due("P17 behind 13", t.next(0, 13), -9);
    due("P17 no kind is told first", t.next(5, -2), -1);
  }

  private static void howManyOfEach() {
    SameParts t = new SameParts();
    for (int n = 1; n <= 7; n++) {
      t.persons(n);
      for (int kind = 0; kind <= 4; kind++) {
        due("P18 of " + n + " by " + kind, t.all(kind), PARTINGS[n]);
      }
    }
    Check.say(t, "a>b0;b>c0;c>d0;d>e0;e>f0;f>g0");
    for (int kind = 1; kind <= 4; kind++) {
      due("P18 of a chain just one by " + kind, t.all(kind), 1);
      due("P17 of a chain by " + kind, t.next(kind, -1), 123456);
    }
  }

  // -- IV. Pictures

  private static void pictures() {
    noSuchPersons();
    onePair();
    eachPicture();
    partsThatThereAre();
  }

  /** "(Without such x, z: 0.)" */
  private static void noSuchPersons() {
    SameParts t = Check.town(2, "a>b0;b>a0");
    due("P21 of one to itself", t.picture(1, 0, 0, 0), 0);
    due("P21 of the other to itself", t.picture(1, 1, 1, 0), 0);
    due("P21 one alone", Check.town(1, "").picture(0, 0, 0, 0), 0);
  }

  /** "The first that fits": of one pair none or all, never as many. */
  private static void onePair() {
    SameParts t = Check.town(2, "a>b0");
    due("P21 all of one", t.picture(1, 0, 1, 0), 1);
    due("P21 none of one", t.picture(1, 1, 0, 0), 0);
    due("P21 one of two, each has not one", t.picture(0, 0, 0, 0), 4);
    Check.say(t, "b>a0");
    due("P21 both of two", t.picture(0, 0, 0, 0), 1);
  }

  private static void eachPicture() {
    SameParts t = Check.town(6, "");
    due("P21 none", t.picture(11222, 1, 2, 0), 0);
    Check.say(t, "b>d0;b>e0");
    due("P21 c has none", t.picture(11222, 1, 2, 0), 4);
    Check.say(t, "c>f0");
    due("P21 two and one", t.picture(11222, 1, 2, 0), 3);
    Check.say(t, "c>e0");
    due("P21 two each", t.picture(11222, 1, 2, 0), 2);
    Check.say(t, "c>d0");
    due("P21 two and three", t.picture(11222, 1, 2, 0), 3);
    Check.say(t, "b>f0");
    due("P21 three each, that is all", t.picture(11222, 1, 2, 0), 1);
    due("P21 by those that it comes to: none of theirs", t.picture(11222, 2, 1, 0), 0);
    t = Check.town(3, "a>b0;b>c0;c>b0");
    due("P21 within, one each", t.picture(0, 0, 0, 0), 2);
    Check.say(t, "a>c0");
    due("P21 within, two and one", t.picture(0, 0, 0, 0), 3);
    Check.say(t, "b>a0");
    due("P21 within, two and two and one", t.picture(0, 0, 0, 0), 3);
    Check.say(t, "c>a0");
    due("P21 within, two each, that is all", t.picture(0, 0, 0, 0), 1);
  }

  /** "-1 (PARTS, too)" */
  private static void partsThatThereAre() {
    SameParts t = Check.town(7, "");
    due("P21 the last part", t.picture(123456, 6, 6, 0), 0);
    for (int part : new int[] {-1, 7, LOWEST, HIGHEST}) {
      due("P21 part " + part, t.picture(123456, part, 0, 0), -1);
      due("P21 to part " + part, t.picture(123456, 0, part, 0), -1);
    }
    due("P21 a part that this one has not", t.picture(1, 2, 0, 0), -1);
    due("P21 to a part that this one has not", t.picture(1, 0, 2, 0), -1);
    due("P21 no parting", t.picture(2, 0, 0, 0), -1);
  }

  // -- IV. Wrong, least, spoils

  private static void wrongs() {
    noneWrong();
    halfAndHalf();
    leastOfOneAndAll();
    theLeastNumberOfSeveral();
    gaps();
    spoilsAlone();
    spoilsFirstAndLast();
    spoilsBelowZero();
  }

  private static void noneWrong() {
    due("P22 one alone", Check.town(1, "").wrong(0), 0);
    due("P22 no ties", Check.town(7, "").wrong(0), 0);
    due("P22 each alone", Check.town(7, "a>b0;b>c1;c>d2;g>a0").wrong(123456), 0);
    due("P22 all ties of two", Check.town(2, "a>b0;b>a0").wrong(0), 0);
  }

  /** "the lesser of how many TIES there are of p to q (others) and how many lack" */
  private static void halfAndHalf() {
    SameParts t = Check.town(3, "a>b0;b>c0");
    due("P22 two of six", t.wrong(0), 2);
    Check.say(t, "c>a0");
    due("P22 three of six", t.wrong(0), 3);
    Check.say(t, "a>c0");
    due("P22 four of six", t.wrong(0), 2);
    Check.say(t, "a>c1;a>b2");
    due("P22 and two kinds more", t.wrong(0), 4);
    // Of kind 0 one of a, b within lacks, and one from c; a>c1 and a>b2 are one of two each.
    due("P22 of two parts, too", t.wrong(1), 4);
  }

  /** "-4; -6 more than PERSONS" */
  private static void leastOfOneAndAll() {
    SameParts t = new SameParts();
    int finest = 0;
    for (int n = 1; n <= 7; n++) {
      t.persons(n);
      finest = 10 * finest + n - 1;
      due("P23 one part of " + n, t.least(1, 0), 0);
      due("P23 as many as persons: " + n, t.least(n, 0), finest);
      due("P23 one more than " + n, t.least(n + 1, 0), -6);
      due("P23 none of " + n, t.least(0, 0), -4);
      due("P23 no gap of one part", t.least(1, 2), -9);
      due("P23 no gap of each alone", t.least(n, 2), -9);
    }
    for (int what = 0; what <= 2; what++) {
      due("P23 highest", t.least(HIGHEST, what), -6);
      due("P23 lowest", t.least(LOWEST, what), -4);
    }
  }

  /** "of several the least number" */
  private static void theLeastNumberOfSeveral() {
    SameParts t = Check.town(7, "");
    int[] numbers = {0, 1, 12, 123, 1234, 12345, 123456};
    for (int k = 1; k <= 7; k++) {
      due("P23 no ties, parts " + k, t.least(k, 0), numbers[k - 1]);
      due("P23 none wrong, parts " + k, t.least(k, 1), 0);
      due("P23 no gap, parts " + k, t.least(k, 2), k == 1 || k == 7 ? -9 : 0);
    }
  }

  /** "the least WRONG of the others with k PARTS less that; -9 there are no others" */
  private static void gaps() {
    SameParts t = Check.town(3, "a>b0;b>a0");
    // 001: none wrong; 010: a and c, to b one of two, from b one of two: 2; 011 alike
    due("P23 the first is the best", t.least(2, 0), 1);
    due("P23 gap", t.least(2, 2), 2);
    t = Check.town(3, "b>c0;c>b0");
    due("P23 the last is the best", t.least(2, 0), 11);
    due("P23 gap to those ahead", t.least(2, 2), 2);
    t = Check.town(2, "a>b0");
    due("P23 no others of one part", t.least(1, 2), -9);
    due("P23 though one is wrong", t.least(1, 1), 1);
  }

  /** "(-9: one person alone)", "-3 one person alone (what 1)" */
  private static void spoilsAlone() {
    SameParts t = Check.town(1, "");
    due("P24 alone", t.spoils(0, 0), -9);
    due("P30 that is no refusal", t.count(13), 0);
    due("P24 alone, by how much", t.spoils(0, 1), 1000000003);
    due("P30 that is one", t.count(13), 1);
    due("P24 alone, another what", t.spoils(0, 2), 1000000002);
    due("P24 alone, another what below", t.spoils(0, -1), 1000000002);
    due("P24 alone, no parting", t.spoils(1, 1), 1000000001);
    t.persons(2);
    due("P24 two", t.spoils(0, 0), 10);
  }

  /** "(there or not; x, z, KIND in this order)", "(the first such)" */
  private static void spoilsFirstAndLast() {
    SameParts t = Check.town(7, "");
    due("P24 the first tie of all", t.spoils(123456, 0), 10);
    due("P24 by none", t.spoils(123456, 1), 0);
    // One of three from g to d, e, f: without it none is wrong; with one more one would lack.
    Check.say(t, "g>f2");
    due("P24 the last tie of all", t.spoils(123334, 0), 652);
    due("P24 by one", t.spoils(123334, 1), 1);
    // Each that is there is one of few of six, so WRONG is less without it, and more with another one.
    t = Check.town(3, "a>c1;a>c2;b>a0");
    due("P24 the first by kind", t.spoils(0, 0), 21);
    t.untie(0);
    due("P24 then the next kind", t.spoils(0, 0), 22);
    t.untie(0);
    due("P24 then the next x", t.spoils(0, 0), 100);
    Check.say(t, "a>c0");
    due("P24 z of the first x is ahead of the next x", t.spoils(0, 0), 20);
  }

  /** "(it may be below 0)": so no refusal is answered below 0. */
  private static void spoilsBelowZero() {
    SameParts t = Check.town(3, "");
    due("P24 no ties", t.spoils(0, 1), -1);
    due("P24 the first of them", t.spoils(0, 0), 10);
    due("P24 no parting", t.spoils(3, 1), 1000000001);
    due("P24 no parting, lowest", t.spoils(LOWEST, 0), 1000000001);
    due("P24 another what", t.spoils(0, HIGHEST), 1000000002);
    due("P24 another what, lowest", t.spoils(0, LOWEST), 1000000002);
    due("P30 refused -1", t.count(11), 2);
    due("P30 refused -2", t.count(12), 2);
  }

  // -- IV. The newcomer

  private static void newcomers() {
    sixTies();
    everyPartFitsWithoutTies();
    toAndFrom();
    partsOfThemselves();
    newcomersGoWithTheTown();
  }

  /** "told TIES (6 at most)" */
  private static void sixTies() {
    SameParts t = Check.town(7, "a>g2");
    for (int i = 1; i <= 5; i++) {
      due("P25 tie " + i, t.newcomer(2, 6, true), i);
    }
    due("P26 as a", t.fits(123456), 1);
    due("P25 the sixth", t.newcomer(0, 0, false), 6);
    due("P26 the sixth counts", t.fits(123456), 0);
    due("P25 the seventh", t.newcomer(2, 6, true), -6);
    due("P25 the seventh of nobody", t.newcomer(2, 7, true), -1);
    due("P25 the seventh of no kind", t.newcomer(3, 6, true), -1);
    due("P27 six were there", t.gone(), 6);
    due("P25 the first again", t.newcomer(2, 6, true), 1);
    due("P26 as a again", t.fits(123456), 1);
  }

  /** Each of no ties is had by any part: one bit of each part that there is. */
  private static void everyPartFitsWithoutTies() {
    SameParts t = Check.town(7, "");
    due("P26 one part", t.fits(0), 1);
    due("P26 two parts", t.fits(1), 3);
    due("P26 seven parts", t.fits(123456), 127);
    t.newcomer(0, 0, true);
    due("P26 no ties there", t.fits(123456), 0);
    t.gone();
    due("P26 none told again", t.fits(123456), 127);
    due("P26 no parting", t.fits(123457), -1);
    due("P26 below", t.fits(-1), -1);
  }

  /** "a TIE of that KIND to (from) some person of the PART of the one told" */
  private static void toAndFrom() {
    SameParts t = Check.town(7, "g>a0;b>g0");
    t.newcomer(0, 0, true);
    due("P26 to a as g", t.fits(123456), 64);
    t.gone();
    t.newcomer(0, 6, false);
    due("P26 from g as a", t.fits(123456), 1);
    t.gone();
    t.newcomer(0, 6, true);
    due("P26 to g as b", t.fits(123456), 2);
    due("P26 to g's part as a's or b's", t.fits(123455), 2);
    t.newcomer(1, 6, true);
    due("P26 of another kind, too", t.fits(123456), 0);
  }

  private static void partsOfThemselves() {
    SameParts t = Check.town(3, "a>b0");
    t.newcomer(0, 0, true);
    due("P26 to the part of both", t.fits(1), 1);
    due("P26 to a alone", t.fits(12), 0);
    due("P26 of the part of all", t.fits(0), 1);
    t.year(100);
    due("P26 on a year without ties", t.fits(0), 0);
  }

  /** "THE NEWCOMER has no TIES any more: how many there were" */
  private static void newcomersGoWithTheTown() {
    SameParts t = Check.town(3, "a>b0");
    due("P27 none", t.gone(), 0);
    t.newcomer(0, 2, true);
    t.persons(8);
    due("P30 a refused number of persons leaves it", t.count(5), 1);
    t.persons(3);
    due("P30 another town has none", t.count(5), 0);
    due("P27 none went", t.gone(), 0);
    due("P30 gone is no refusal", t.count(11) + t.count(13), 0);
  }

  // -- V. Years

  private static void years() {
    shiftOfNone();
    shiftOfAllButOne();
    shiftIsOneToOne();
    shiftYears();
    staysOneYear();
    staysAllYears();
    staysUpToTheLast();
    staysYears();
  }

  private static void shiftOfNone() {
    SameParts t = Check.town(7, "a>b0@0-50;b>c0@50-100;c>d0@50-51");
    for (int kind = 0; kind <= 4; kind++) {
      due("P28 from a year to itself", t.shift(50, 50, kind), 0);
      due("P28 from the last year to itself", t.shift(100, 100, kind), 0);
      due("P28 one alone", Check.town(1, "").shift(0, 100, kind), 0);
    }
  }

  /** "how few PERSONS need another PART": at most all but one. */
  private static void shiftOfAllButOne() {
    SameParts t = Check.town(7, "a>b0;b>c0;c>d0;d>e0;e>f0;f>g0");
    due("P28 of seven parts to one", t.shift(0, 100, 4), 6);
    due("P28 of one part to seven", t.shift(100, 0, 4), 6);
    due("P28 marks do not turn", t.shift(0, 100, 0), 0);
  }

  /** "PARTS .. of the one renamed as is best to those of the other" */
  private static void shiftIsOneToOne() {
    SameParts t = Check.town(6, "");
    // Year 0: {a, b}{c, d}{e, f} by whom they owe; year 1: {a, b, c, d}{e, f}: of the two halves one keeps its part.
    Check.say(t, "a>c0@0-1;b>c0@0-1;a>d0@0-1;b>d0@0-1");
    Check.say(t, "a>e0@1-2;b>e0@1-2;c>e0@1-2;d>e0@1-2");
    Check.say(t, "a>f0@1-2;b>f0@1-2;c>f0@1-2;d>f0@1-2");
    due("P12 three parts", t.coarsest(0, 1), 1122);
    t.year(1);
    due("P12 two parts", t.coarsest(0, 1), 11);
    due("P28 two of a part go", t.shift(0, 1, 1), 2);
    due("P28 and come back", t.shift(1, 0, 1), 2);
  }

  /** "-1 KIND; -4; -6" */
  private static void shiftYears() {
    SameParts t = Check.town(3, "");
    due("P28 the ends", t.shift(0, 100, 0), 0);
    due("P28 the ends turned", t.shift(100, 0, 0), 0);
    due("P28 the first below", t.shift(-1, 100, 0), -4);
    due("P28 the second below", t.shift(100, -1, 0), -4);
    due("P28 the first above", t.shift(101, 0, 0), -6);
    due("P28 the second above", t.shift(0, 101, 0), -6);
    due("P28 one above, one below", t.shift(101, -1, 0), -4);
    due("P28 one below, one above", t.shift(LOWEST, HIGHEST, 0), -4);
    due("P28 no kind", t.shift(-1, 101, 5), -1);
    due("P30 the year is as it was", t.count(3), 0);
  }

  /** "(that one, too, up to 100)" */
  private static void staysOneYear() {
    SameParts t = Check.town(2, "a>b0@1-2;a>b0@99-100");
    due("P29 on its last year", t.stays(0, 3), 1);
    due("P29 on its only year", t.stays(1, 3), 1);
    due("P29 one year ahead of the last", t.stays(99, 3), 1);
    due("P29 on year 100", t.stays(100, 3), 1);
    due("P29 between", t.stays(2, 3), 97);
  }

  private static void staysAllYears() {
    for (int kind = 0; kind <= 4; kind++) {
      due("P29 one alone", Check.town(1, "").stays(0, kind), 101);
      due("P29 no ties", Check.town(7, "").stays(0, kind), 101);
      due("P29 no ties from 1", Check.town(7, "").stays(1, kind), 100);
      due("P29 no ties from 99", Check.town(7, "").stays(99, kind), 2);
    }
  }

  private static void staysUpToTheLast() {
    SameParts t = Check.town(2, "a>b0");
    due("P29 till ahead of 100", t.stays(0, 1), 100);
    due("P29 from 99", t.stays(99, 1), 1);
    due("P29 of marks up to 100", t.stays(0, 0), 101);
    // As other ties part the two, too, nothing turns on 40 and 60.
    t = Check.town(2, "b>a1@40-60;a>b0*2@0-40;a>b2@60-80;a>b0@45-50");
    due("P29 by ties that come and go", t.stays(0, 2), 80);
    due("P29 from within", t.stays(41, 2), 39);
    due("P29 and none behind", t.stays(80, 2), 21);
  }

  private static void staysYears() {
    SameParts t = Check.town(3, "");
    for (int y : new int[] {101, 102, HIGHEST}) {
      due("P29 from " + y, t.stays(y, 0), -6);
    }
    for (int y : new int[] {-1, LOWEST}) {
      due("P29 from " + y, t.stays(y, 0), -4);
    }
    due("P29 no kind is told first", t.stays(-1, 5), -1);
    due("P29 no kind is told first, too", t.stays(101, -1), -1);
    t.year(40);
    t.stays(7, 0);
    due("P30 the year is as it was", t.count(3), 40);
  }

  // -- Promise 30

  private static void counts() {
    countsOfAFullTown();
    countsThatAreNone();
    countsAreNoCallsRefused();
  }

  private static void countsOfAFullTown() {
    SameParts t = Check.town(7, "");
    for (int i = 0; i < 5; i++) {
      Check.say(t, TWELVE);
    }
    t.year(99);
    for (int i = 0; i < 6; i++) {
      t.newcomer(0, 0, true);
    }
    Check.put(t, TWELVE + ";");
    int[] due = {7, 60, 1, 99, 60, 6};
    for (int what = 0; what <= 5; what++) {
      due("P30 count " + what, t.count(what), due[what]);
    }
    t.year(100);
    due("P30 no ties there on 100", t.count(2), 0);
    due("P30 all told still", t.count(1), 60);
  }

  /** "-9 for another what" */
  private static void countsThatAreNone() {
    SameParts t = new SameParts();
    for (int what : new int[] {-1, 6, 10, 17, 18, -9, LOWEST, HIGHEST}) {
      due("P30 count " + what, t.count(what), -9);
    }
    for (int what = 11; what <= 16; what++) {
      due("P30 count " + what, t.count(what), 0);
    }
  }

  /** A -9 and a fault are answers, not refusals. */
  private static void countsAreNoCallsRefused() {
    SameParts t = Check.town(1, "");
    t.count(-1);
    t.count(99);
    t.ties();
    Check.say(t, "x");
    t.next(0, 0);
    t.judge(0, 0);
    t.least(1, 2);
    t.spoils(0, 0);
    for (int what = 11; what <= 16; what++) {
      due("P30 no refusals, count " + what, t.count(what), 0);
    }
  }
}
