/** Each promise of the document with answers reckoned by hand: ordinary ones, edges and wrong inputs. */
public final class PromisesTest {
  private static final int LOWEST = Integer.MIN_VALUE;
  private static final int HIGHEST = Integer.MAX_VALUE;
  private static final Check CHECK = new Check();

  private PromisesTest() { }

  public static void main(String[] args) {
    newObject();
    persons();
    mark();
    year();
    feed();
    ties();
    faults();
    yearFaults();
    untie();
    tie();
    degree();
    parting();
    judge();
    coarsest();
    renamings();
    moves();
    orbits();
    form();
    next();
    all();
    join();
    meet();
    picture();
    wrong();
    least();
    spoils();
    newcomer();
    fits();
    gone();
    shift();
    stays();
    count();
    CHECK.end("PromisesTest");
  }

  private static void due(String call, long got, long want) {
    CHECK.due(call, got, want);
  }

  private static void newObject() {
    SameParts t = new SameParts();
    due("P1 persons", t.count(0), 4);
    due("P1 year", t.count(3), 0);
    for (int what : new int[] {1, 2, 4, 5, 11, 12, 13, 14, 15, 16}) {
      due("P1 count " + what, t.count(what), 0);
    }
    due("P1 d has a mark", t.mark(3, 0), 0);
    due("P1 no e", t.mark(4, 0), -1);
    due("P1 no ties", t.tie(0, 0, 3), 0);
  }

  private static void persons() {
    SameParts t = new SameParts();
    due("P2 from 4", t.persons(7), 4);
    due("P2 from 7", t.persons(1), 7);
    due("P2 none", t.persons(0), -4);
    due("P2 lowest", t.persons(LOWEST), -4);
    due("P2 eight", t.persons(8), -6);
    due("P2 highest", t.persons(HIGHEST), -6);
    due("P2 unchanged by refusals", t.count(0), 1);
    t = Check.town(3, "a>b0");
    t.mark(2, 3);
    t.newcomer(0, 1, true);
    t.year(7);
    Check.put(t, "a>");
    due("P2 refused", t.persons(8), -6);
    due("P2 ties stay then", t.count(1), 1);
    due("P2 as many as ahead", t.persons(3), 3);
    due("P2 no ties told", t.count(1), 0);
    due("P2 no tie", t.tie(0, 0, 1), 0);
    due("P2 no mark", t.mark(2, 0), 0);
    due("P2 no newcomer", t.count(5), 0);
    due("P2 the year stays", t.count(3), 7);
    due("P2 the tape stays", t.count(4), 2);
  }

  private static void mark() {
    SameParts t = Check.town(2, "");
    due("P3 first", t.mark(1, 3), 0);
    due("P3 again", t.mark(1, 1), 3);
    due("P3 below", t.mark(1, -1), -4);
    due("P3 above", t.mark(1, 4), -6);
    due("P3 nobody", t.mark(2, 0), -1);
    due("P3 nobody below", t.mark(-1, 0), -1);
    due("P3 nobody is told first", t.mark(HIGHEST, LOWEST), -1);
    due("P3 unchanged by refusals", t.mark(1, 0), 1);
    due("P3 of the other one", t.mark(0, 2), 0);
  }

  private static void year() {
    SameParts t = Check.town(2, "a>b0@5-7");
    due("P4 first", t.year(5), 0);
    due("P4 begins", t.tie(0, 0, 1), 1);
    due("P4 goes on", t.year(6), 5);
    due("P4 there", t.tie(0, 0, 1), 1);
    due("P4 ends", t.year(7), 6);
    due("P4 no more", t.tie(0, 0, 1), 0);
    due("P4 last", t.year(100), 7);
    due("P4 above", t.year(101), -6);
    due("P4 below", t.year(-1), -4);
    due("P4 lowest", t.year(LOWEST), -4);
    due("P4 unchanged by refusals", t.count(3), 100);
    due("P4 back", t.year(4), 100);
    due("P4 not yet", t.tie(0, 0, 1), 0);
    due("P4 the first year again", t.year(0), 4);
    due("P4 that is taken", t.count(3), 0);
  }

  private static void feed() {
    SameParts t = new SameParts();
    due("P5 none", t.feed(0, 97), -4);
    due("P5 lowest", t.feed(LOWEST, 97), -4);
    due("P5 nine", t.feed(9, 97), -6);
    due("P5 highest", t.feed(HIGHEST, 97), -6);
    due("P5 two, the lowest first", t.feed(2, 0x7a7a7a7a00003e61L), 2);
    due("P5 two more", t.feed(2, 0x3062), 4);
    due("P5 they are a>b0", t.ties(), 1);
    due("P5 told", t.tie(0, 0, 1), 1);
    for (int i = 1; i <= 7; i++) {
      due("P5 eights", t.feed(8, -1L), 8 * i);
    }
    due("P5 above 60", t.feed(5, 0), -6);
    due("P5 just 60", t.feed(4, 0), 60);
    due("P5 full", t.feed(1, 0), -6);
    due("P5 has 60", t.count(4), 60);
    due("P5 high bytes are no letters", t.ties(), -20);
    due("P5 empty again", t.feed(1, 97), 1);
  }

  private static void ties() {
    SameParts t = Check.town(3, "");
    due("P6 one", Check.say(t, "a>b0"), 1);
    due("P6 three in all", Check.say(t, "b>a1*9;c>b2*4@3-100"), 3);
    due("P6 tape is empty", t.count(4), 0);
    due("P6 strength 1 without", t.tie(0, 0, 1), 1);
    due("P6 strength 9", t.tie(1, 1, 0), 9);
    due("P6 not of that year", t.tie(2, 2, 1), 0);
    t.year(3);
    due("P6 of that year", t.tie(2, 2, 1), 4);
    t.year(100);
    due("P6 till 100 is not on 100", t.tie(0, 0, 1), 0);
    t.year(99);
    due("P6 but on 99", t.tie(0, 0, 1), 1);
    due("P6 the last one's strength", Check.say(t, "a>b0*5;a>b0*3"), 5);
    due("P6 is 3", t.tie(0, 0, 1), 3);
    due("P6 one that ended does not hide it", Check.say(t, "a>b0*8@0-50"), 6);
    due("P6 still 3", t.tie(0, 0, 1), 3);
    t.year(49);
    due("P6 there it is 8", t.tie(0, 0, 1), 8);
    String twelve = "a>b0;a>b0;a>b0;a>b0;a>b0;a>b0;a>b0;a>b0;a>b0;a>b0;a>b0;a>b0";
    t = Check.town(2, "");
    for (int i = 1; i < 5; i++) {
      due("P6 twelves", Check.say(t, twelve), 12 * i);
    }
    due("P6 59", Check.say(t, twelve.substring(5)), 59);
    due("P6 no room for two", Check.say(t, "b>a0;b>a1"), -6);
    due("P6 tape is empty by that, too", t.count(4), 0);
    due("P6 none of them is told", t.count(1), 59);
    due("P6 b>a is none", t.tie(0, 1, 0), 0);
    due("P6 a fault is told ahead of room", Check.say(t, "b>a0;b>b1"), -27);
    due("P6 room for one", Check.say(t, "b>a0"), 60);
    due("P6 no room for one", Check.say(t, "b>a0"), -6);
    due("P6 refused three times with room", t.count(16), 2);
  }

  private static void fault(String text, int place) {
    SameParts t = Check.town(3, "");
    due("P6 " + text, Check.say(t, text), -20 - place);
    due("P6 tape behind " + text, t.count(4), 0);
    due("P6 ties behind " + text, t.count(1), 0);
    due("P6 no refusal of " + text, t.count(11) + t.count(14) + t.count(16), 0);
  }

  private static void faults() {
    fault("", 0);
    fault("a", 1);
    fault("a>", 2);
    fault("a>b", 3);
    fault("a>b0;", 5);
    fault("a>b0*", 5);
    fault("a>b0@", 5);
    fault("d>a0", 0);
    fault("A>b0", 0);
    fault(";a>b0", 0);
    fault("ab0", 1);
    fault("a>a0", 2);
    fault("a>d0", 2);
    fault("a>`0", 2);
    fault("a>b3", 3);
    fault("a>b/", 3);
    fault("a>b*3", 3);
    fault("a>b0*0", 5);
    fault("a>b0*:", 5);
    fault("a>b0*12", 6);
    fault("a>b00", 4);
    fault("a>b0 ;b>a0", 4);
    fault("a>b0;;b>a0", 5);
    fault("a>b0;c>c0", 7);
    fault("a>b0@1-2*3", 8);
    fault("a>b0*3*3", 6);
    fault("a>b0\u00ff", 4);
    fault("a>b0\u0000", 4);
  }

  private static void yearFaults() {
    fault("a>b0@1", 6);
    fault("a>b0@1-", 7);
    fault("a>b0@-2", 5);
    fault("a>b0@x", 5);
    fault("a>b0@1x", 6);
    fault("a>b0@1-x", 7);
    fault("a>b0@101-102", 5);
    fault("a>b0@101", 5);
    fault("a>b0@999", 5);
    fault("a>b0@1000-2", 8);
    fault("a>b0@0001-2", 8);
    fault("a>b0@5-5", 7);
    fault("a>b0@5-4", 7);
    fault("a>b0@50-5x", 8);
    fault("a>b0@5-101", 7);
    fault("a>b0@0-1000", 10);
    fault("a>b0@100-100", 9);
    fault("a>b0@1-2@3-4", 8);
    SameParts t = Check.town(3, "");
    due("P6 just 100", Check.say(t, "a>b0@99-100"), 1);
    due("P6 digits ahead", Check.say(t, "a>c0@007-010;a>c1@00-1"), 3);
    t.year(7);
    due("P6 from 7", t.tie(0, 0, 2), 1);
    t.year(10);
    due("P6 till ahead of 10", t.tie(0, 0, 2), 0);
    t = Check.town(3, "a>b0*7@5-7");
    due("P6 one without a year or strength", Check.say(t, "b>a0"), 2);
    due("P6 is from 0 behind one that is not", t.tie(0, 1, 0), 1);
    t.year(99);
    due("P6 and till 100", t.tie(0, 1, 0), 1);
  }

  private static void untie() {
    SameParts t = Check.town(3, "a>b0*1;a>b0*2;b>c1*3;a>b0*4");
    due("P7 below", t.untie(-1), -1);
    due("P7 above", t.untie(4), -1);
    due("P7 highest", t.untie(HIGHEST), -1);
    due("P7 lowest", t.untie(LOWEST), -1);
    due("P7 the last one", t.untie(3), 1);
    due("P7 the one ahead tells its strength", t.tie(0, 0, 1), 2);
    due("P7 the first one", t.untie(0), 1);
    due("P7 two are left", t.count(1), 2);
    due("P7 later ones are one less", t.untie(1), 1);
    due("P7 that was b>c", t.tie(1, 1, 2), 0);
    due("P7 a>b is there", t.tie(0, 0, 1), 2);
    due("P7 told behind it", Check.say(t, "c>a2*7"), 2);
    due("P7 c>a", t.tie(2, 2, 0), 7);
    due("P7 the first again", t.untie(0), 1);
    due("P7 c>a is the first now", t.untie(0), 1);
    due("P7 none are left", t.untie(0), -1);
  }

  private static void tie() {
    SameParts t = Check.town(3, "a>c2*6");
    due("P8 there", t.tie(2, 0, 2), 6);
    due("P8 not the other way", t.tie(2, 2, 0), 0);
    due("P8 not of that kind", t.tie(1, 0, 2), 0);
    due("P8 one twice", t.tie(2, 0, 0), -1);
    due("P8 no kind", t.tie(3, 0, 2), -1);
    due("P8 no kind below", t.tie(-1, 0, 2), -1);
    due("P8 nobody", t.tie(0, 3, 0), -1);
    due("P8 nobody there", t.tie(0, 0, 3), -1);
    due("P8 nobody below", t.tie(0, -1, LOWEST), -1);
    due("P8 refused", t.count(11), 6);
  }

  private static void degree() {
    SameParts t = Check.town(4, "a>b0;a>c0*3;a>c0;a>d1;b>c0@1-2");
    due("P9 from a", t.degree(0, 0, false), 2);
    due("P9 to a", t.degree(0, 0, true), 0);
    due("P9 to c", t.degree(0, 2, true), 1);
    due("P9 of another kind", t.degree(1, 0, false), 1);
    due("P9 to d", t.degree(1, 3, true), 1);
    t.year(1);
    due("P9 to c later", t.degree(0, 2, true), 2);
    due("P9 no kind", t.degree(3, 0, true), -1);
    due("P9 no kind below", t.degree(-1, 0, false), -1);
    due("P9 nobody", t.degree(0, 4, true), -1);
    due("P9 nobody below", t.degree(0, -1, false), -1);
  }

  private static void parting() {
    SameParts t = Check.town(7, "");
    due("P10 one", t.parting(0), 1);
    due("P10 seven", t.parting(123456), 7);
    due("P10 three", t.parting(12012), 3);
    due("P10 a is 0", t.parting(1000000), -1);
    due("P10 too many digits", t.parting(10000000), -1);
    due("P10 a part left out", t.parting(2), -1);
    due("P10 a part left out later", t.parting(103), -1);
    due("P10 below", t.parting(-1), -1);
    due("P10 lowest", t.parting(LOWEST), -1);
    due("P10 highest", t.parting(HIGHEST), -1);
    t.persons(1);
    due("P10 alone", t.parting(0), 1);
    due("P10 alone is in part 0", t.parting(1), -1);
    due("P10 two digits", t.parting(10), -1);
  }

  private static void judge() {
    SameParts t = Check.town(4, "a>c0;b>c0;d>c0*2");
    due("P11 same", t.judge(10, 1), -9);
    due("P11 not twins", t.judge(10, 2), 3);
    due("P11 a and b are", t.judge(12, 2), -9);
    due("P11 the first by x", t.judge(0, 4), 2);
    due("P11 like", t.judge(10, 3), -9);
    due("P11 marks", t.judge(0, 0), -9);
    t.mark(3, 1);
    due("P11 other marks", t.judge(0, 0), 3);
    due("P11 for like, too", t.judge(10, 3), 3);
    due("P11 b and d", t.judge(121, 1), 13);
    due("P11 alone", t.judge(123, 4), -9);
    due("P11 no kind", t.judge(0, 5), -1);
    due("P11 no kind below", t.judge(0, -1), -1);
    due("P11 no parting", t.judge(2, 0), -1);
    due("P11 neither", t.judge(2, 5), -1);
    t = Check.town(2, "a>b0*2;b>a0*3");
    due("P11 to each other", t.judge(0, 1), -9);
    due("P11 in other strengths", t.judge(0, 2), 1);
    t = Check.town(2, "a>b0");
    due("P11 not back", t.judge(0, 1), 1);
    t = Check.town(4, "a>b0;a>c0;d>b0");
    due("P11 some as like", t.judge(110, 3), -9);
    due("P11 not as many", t.judge(110, 4), 3);
    due("P11 two to one part, one to the next", Check.town(5, "a>c0;a>d0;b>e0").judge(112, 4), 1);
    t = Check.town(7, "a>b0;a>c0;a>d0;a>e0;a>f0;a>g0");
    due("P11 six to one part", t.judge(111111, 4), -9);
  }

  private static void coarsest() {
    SameParts t = Check.town(5, "a>b0;b>c0;c>d0;d>e0");
    due("P12 splits again and again", t.coarsest(0, 3), 1234);
    due("P12 by counts, too", t.coarsest(0, 4), 1234);
    due("P12 marks", t.coarsest(0, 0), 0);
    due("P12 not coarser than that", t.coarsest(122, 0), 122);
    t = Check.town(6, "a>b0;b>c0;c>a0;d>e0;e>f0;f>d0");
    due("P12 rounds are like", t.coarsest(0, 3), 0);
    due("P12 and of a told parting", t.coarsest(1, 3), 123);
    due("P12 none the same", t.coarsest(0, 1), 12345);
    t = Check.town(4, "a>c0;b>c0*2;b>d1");
    due("P12 no two the same", t.coarsest(0, 1), 123);
    t.untie(2);
    due("P12 a and b the same", t.coarsest(0, 1), 12);
    due("P12 no twins", t.coarsest(0, 2), 123);
    due("P12 apart as told", t.coarsest(100, 1), 123);
    t.mark(0, 2);
    due("P12 other marks", t.coarsest(0, 0), 111);
    due("P12 no kind", t.coarsest(0, 5), -1);
    due("P12 no kind below", t.coarsest(0, -1), -1);
    due("P12 no parting", t.coarsest(20, 0), -1);
    due("P12 no parting below", t.coarsest(-1, 0), -1);
    t = Check.town(5, "a>b0;a>c0;d>e0");
    due("P12 like", t.coarsest(0, 3), 1101);
    due("P12 count", t.coarsest(0, 4), 1123);
  }

  private static void renamings() {
    SameParts t = Check.town(7, "");
    due("P13 all", t.renamings(), 5040);
    t.mark(0, 1);
    due("P13 but a", t.renamings(), 720);
    t = Check.town(3, "a>b0;b>c0;c>a0");
    due("P13 round", t.renamings(), 3);
    Check.say(t, "b>a0;c>b0;a>c0");
    due("P13 both ways", t.renamings(), 6);
    Check.say(t, "a>b0*2");
    due("P13 of another strength", t.renamings(), 1);
    t = Check.town(2, "a>b0;b>a1");
    due("P13 of another kind", t.renamings(), 1);
    due("P13 one", Check.town(1, "").renamings(), 1);
    t = Check.town(2, "a>b0@1-2");
    due("P13 of the year", t.renamings(), 2);
    t.year(1);
    due("P13 of that year", t.renamings(), 1);
    due("P13 two rounds", Check.town(6, "a>b0;b>c0;c>a0;d>e0;e>f0;f>d0").renamings(), 18);
    due("P13 three ways of one length", Check.town(6, "a>b0;c>d0;e>f0").renamings(), 6);
    due("P13 ways of two lengths", Check.town(6, "a>b0;b>c0;d>e0").renamings(), 1);
  }

  private static void moves() {
    SameParts t = Check.town(4, "a>b0;b>c0;c>d0;d>a0");
    due("P14 round", t.moves(0, 3), 1);
    due("P14 itself", t.moves(2, 2), 1);
    Check.say(t, "a>c1");
    due("P14 no more", t.moves(0, 3), 0);
    due("P14 itself still", t.moves(0, 0), 1);
    due("P14 nobody", t.moves(4, 0), -1);
    due("P14 to nobody", t.moves(0, 4), -1);
    due("P14 nobody below", t.moves(-1, -1), -1);
    t = Check.town(2, "");
    t.mark(1, 1);
    due("P14 other marks", t.moves(0, 1), 0);
    due("P14 back", t.moves(1, 0), 0);
    due("P14 what comes behind differs", Check.town(6, "a>b0;b>c0;d>e0").moves(0, 3), 0);
    t = Check.town(4, "a>b0;c>d0");
    due("P14 the others move along", t.moves(0, 2), 1);
    t.mark(3, 1);
    due("P14 the others' marks keep them", t.moves(0, 2), 0);
  }

  private static void orbits() {
    SameParts t = Check.town(4, "a>b0;c>b0");
    due("P15 a and c", t.orbits(), 102);
    t.mark(2, 1);
    due("P15 nobody", t.orbits(), 123);
    due("P15 all", Check.town(7, "").orbits(), 0);
    due("P15 one", Check.town(1, "").orbits(), 0);
    t = Check.town(6, "a>b0;b>c0;c>a0;d>e0;e>d0");
    due("P15 a round of three and one of two", t.orbits(), 112);
  }

  private static void form() {
    // 00 0050 0000 0000
    due("P16 a strength of 5", Check.town(2, "a>b0*5").form(), 5000000000L % 1000000007L);
    due("P16 and the town alike", Check.town(2, "b>a0*5").form(), 5000000000L % 1000000007L);
    SameParts t = Check.town(2, "a>b0*5");
    t.mark(0, 1);
    // 01 0050 0000 0000: b is told first, as its mark is less
    due("P16 marks ahead", t.form(), 1005000000000L % 1000000007L);
    t = Check.town(2, "a>b0*5");
    t.mark(1, 1);
    // 01 0500 0000 0000
    due("P16 marks tell the order", t.form(), 1050000000000L % 1000000007L);
    // 000 000000000 000000000 000000020: one to the next to the last would be 200
    due("P16 kind 2 last", Check.town(3, "a>b2*2").form(), 20);
    // 00 0000 0020 0300
    due("P16 the first kind tells the order", Check.town(2, "b>a1*2;a>b2*3").form(), 200300);
    due("P16 one", Check.town(1, "").form(), 0);
    // 000 000200500 000000000 000000000: c, b, a
    due("P16 the same, but no twins", Check.town(3, "a>c0*5;b>c0*2").form(), 9824500);
    due("P16 nor told the other way", Check.town(3, "a>c0*2;b>c0*5").form(), 9824500);
    t = Check.town(1, "");
    t.mark(0, 3);
    due("P16 one with a mark", t.form(), 3000);
    int round = Check.town(7, "a>b0;b>c0;c>d0;d>e0;e>f0;f>g0;g>a0").form();
    due("P16 rounds alike", Check.town(7, "a>c0;c>e0;e>g0;g>b0;b>d0;d>f0;f>a0").form(), round);
    due("P16 and no others", Check.town(7, "a>b0;b>c0;c>a0;d>e0;e>f0;f>g0;g>d0").form() == round ? 1 : 0, 0);
  }

  private static void next() {
    SameParts t = Check.town(3, "");
    int[] numbers = {0, 1, 10, 11, 12, -9};
    int after = -1;
    for (int number : numbers) {
      due("P17 behind " + after, t.next(0, after), number);
      after = number;
    }
    due("P17 behind none", t.next(0, 5), 10);
    t.mark(1, 1);
    due("P17 b alone", t.next(0, -1), 10);
    due("P17 all alone", t.next(3, 10), 12);
    due("P17 no more", t.next(0, 12), -9);
    due("P17 highest", t.next(0, HIGHEST), -9);
    due("P17 no kind", t.next(5, 0), -1);
    due("P17 no kind is told first", t.next(-1, -2), -1);
    due("P17 below", t.next(0, -2), -4);
    due("P17 lowest", t.next(0, LOWEST), -4);
    t = Check.town(7, "");
    due("P17 the last of all", t.next(4, 123455), 123456);
    due("P17 none behind it", t.next(4, 123456), -9);
    t = Check.town(3, "a>b0;b>c0;c>a0");
    due("P17 like: all in one", t.next(3, -1), 0);
    due("P17 or alone", t.next(3, 0), 12);
  }

  private static void all() {
    SameParts t = Check.town(7, "");
    for (int kind = 0; kind < 5; kind++) {
      due("P18 all of seven", t.all(kind), 877);
    }
    due("P18 no kind", t.all(5), -1);
    due("P18 no kind below", t.all(-1), -1);
    t.persons(3);
    due("P18 all of three", t.all(0), 5);
    t.mark(1, 1);
    due("P18 b alone", t.all(0), 2);
    t = Check.town(3, "a>b0;b>c0;c>a0");
    due("P18 a round", t.all(3), 2);
    due("P18 none the same", t.all(1), 1);
    due("P18 of one", Check.town(1, "").all(2), 1);
  }

  private static void join() {
    SameParts t = new SameParts();
    due("P19 all in one", t.join(11, 110), 0);
    due("P19 both pairs", t.join(12, 122), 11);
    due("P19 one is coarser", t.join(123, 102), 102);
    due("P19 itself", t.join(101, 101), 101);
    due("P19 numbered as they come", t.join(123, 120), 120);
    due("P19 no parting", t.join(2, 0), -1);
    due("P19 no other one", t.join(0, 2), -1);
    due("P19 below", t.join(-1, LOWEST), -1);
    t.persons(7);
    due("P19 a chain", t.join(11223, 112233), 0);
    due("P19 two chains", t.join(11223, 12233), 11111);
  }

  private static void meet() {
    SameParts t = new SameParts();
    due("P20 crossed", t.meet(11, 101), 123);
    due("P20 a pair is left", t.meet(1, 11), 12);
    due("P20 all in one", t.meet(0, 120), 120);
    due("P20 itself", t.meet(110, 110), 110);
    due("P20 no parting", t.meet(2, 0), -1);
    due("P20 no other one", t.meet(0, 1000), -1);
    due("P20 highest", t.meet(HIGHEST, 0), -1);
  }

  private static void picture() {
    SameParts t = Check.town(5, "a>c0;a>d0");
    due("P21 none", t.picture(111, 0, 1, 1), 0);
    due("P21 otherwise", t.picture(111, 0, 1, 0), 4);
    Check.say(t, "b>c0");
    due("P21 each one at least", t.picture(111, 0, 1, 0), 3);
    Check.say(t, "b>e0");
    due("P21 as many", t.picture(111, 0, 1, 0), 2);
    due("P21 not the other way", t.picture(111, 1, 0, 0), 0);
    Check.say(t, "a>e0;b>d0");
    due("P21 all", t.picture(111, 0, 1, 0), 1);
    due("P21 within", t.picture(111, 0, 0, 0), 0);
    Check.say(t, "a>b0");
    due("P21 within, otherwise", t.picture(111, 0, 0, 0), 4);
    Check.say(t, "b>a0");
    due("P21 within, all", t.picture(111, 0, 0, 0), 1);
    due("P21 within, as many", Check.town(3, "a>b0;b>c0;c>a0").picture(0, 0, 0, 0), 2);
    due("P21 one alone", t.picture(1234, 0, 0, 0), 0);
    due("P21 one to one", t.picture(1234, 0, 1, 0), 1);
    due("P21 no parting", t.picture(2, 0, 0, 0), -1);
    due("P21 no part", t.picture(111, 2, 0, 0), -1);
    due("P21 no part below", t.picture(111, -1, 0, 0), -1);
    due("P21 no part there", t.picture(111, 0, 2, 0), -1);
    due("P21 no part there below", t.picture(111, 0, LOWEST, 0), -1);
    due("P21 no kind", t.picture(111, 0, 0, 3), -1);
    due("P21 no kind below", t.picture(111, 0, 0, -1), -1);
  }

  private static void wrong() {
    SameParts t = Check.town(5, "a>c0;a>d0;b>c0");
    due("P22 three of six", t.wrong(111), 3);
    Check.say(t, "b>d0");
    due("P22 two of six lack", t.wrong(111), 2);
    Check.say(t, "a>c1");
    due("P22 another kind", t.wrong(111), 3);
    Check.say(t, "a>b0");
    due("P22 within", t.wrong(111), 4);
    due("P22 each alone", t.wrong(1234), 0);
    t.year(100);
    due("P22 no ties", t.wrong(111), 0);
    due("P22 all within", Check.town(2, "a>b0;b>a0").wrong(0), 0);
    due("P22 no parting", t.wrong(2), -1);
    due("P22 below", t.wrong(-1), -1);
  }

  private static void least() {
    SameParts t = Check.town(4, "a>c0;b>c0");
    due("P23 the parting", t.least(2, 0), 10);
    due("P23 wrong", t.least(2, 1), 1);
    due("P23 gap", t.least(2, 2), 1);
    due("P23 in one", t.least(1, 1), 2);
    due("P23 no others", t.least(1, 2), -9);
    due("P23 each alone", t.least(4, 0), 123);
    due("P23 no others there", t.least(4, 2), -9);
    t = Check.town(3, "a>b0");
    due("P23 of several the least number", t.least(2, 0), 1);
    due("P23 wrong there", t.least(2, 1), 1);
    due("P23 no gap", t.least(2, 2), 0);
    // 3 with 001, 1 with 010, 5 with 011
    t = Check.town(3, "a>b0;b>a0;b>c0;b>a1;b>c1");
    due("P23 the best behind the next best", t.least(2, 0), 10);
    due("P23 the gap to the one ahead", t.least(2, 2), 2);
    due("P23 several with none wrong, last", Check.town(5, "a>b0").least(4, 0), 1223);
    due("P23 no gap between them", Check.town(5, "a>b0").least(4, 2), 0);
    due("P23 several with none wrong, first", Check.town(5, "d>e0").least(4, 0), 123);
    due("P23 no gap there either", Check.town(5, "d>e0").least(4, 2), 0);
    t = Check.town(7, "a>b0");
    due("P23 the last parting of all", t.least(7, 0), 123456);
    due("P23 with none wrong", t.least(7, 1), 0);
    due("P23 alone with seven parts", t.least(7, 2), -9);
    t.persons(3);
    due("P23 below", t.least(0, 0), -4);
    due("P23 lowest", t.least(LOWEST, 9), -4);
    due("P23 more than persons", t.least(4, 0), -6);
    due("P23 room is told first", t.least(HIGHEST, -1), -6);
    due("P23 another what", t.least(3, 3), -2);
    due("P23 another what below", t.least(3, -1), -2);
  }

  private static void spoils() {
    SameParts t = Check.town(3, "b>a1");
    due("P24 the only one", t.spoils(0, 0), 101);
    due("P24 by one", t.spoils(0, 1), 1);
    due("P24 no one matters", t.spoils(12, 0), 10);
    due("P24 by none", t.spoils(12, 1), 0);
    t = Check.town(3, "a>b2;b>a0");
    due("P24 x ahead of kind", t.spoils(0, 0), 12);
    t = Check.town(3, "");
    due("P24 below 0", t.spoils(0, 1), -1);
    due("P24 the first of all", t.spoils(0, 0), 10);
    t = Check.town(3, "a>b0;a>c0;b>a0;b>c0;c>a0");
    due("P24 one that is not there", t.spoils(0, 0), 210);
    due("P24 by one, too", t.spoils(0, 1), 1);
    due("P24 of two persons", Check.town(2, "").spoils(1, 0), 10);
    due("P24 that is not much", Check.town(2, "").spoils(1, 1), 0);
    due("P24 no parting", t.spoils(2, 0), 1000000001);
    due("P24 no parting is told first", t.spoils(-1, 2), 1000000001);
    due("P24 another what", t.spoils(0, 2), 1000000002);
    due("P24 another what below", t.spoils(0, -1), 1000000002);
    t.persons(1);
    due("P24 alone", t.spoils(0, 0), -9);
    due("P24 alone, how much", t.spoils(0, 1), 1000000003);
    due("P24 another what is told first", t.spoils(0, 2), 1000000002);
    due("P24 refused -1", t.count(11), 2);
    due("P24 refused -2", t.count(12), 3);
    due("P24 refused -3", t.count(13), 1);
  }

  private static void newcomer() {
    SameParts t = Check.town(2, "");
    for (int i = 1; i <= 6; i++) {
      due("P25 how many", t.newcomer(i % 3, i % 2, i > 3), i);
    }
    due("P25 no kind is told first", t.newcomer(3, 0, true), -1);
    due("P25 no kind below", t.newcomer(-1, 0, true), -1);
    due("P25 nobody", t.newcomer(0, 2, false), -1);
    due("P25 nobody below", t.newcomer(0, -1, false), -1);
    due("P25 no room", t.newcomer(0, 0, false), -6);
    due("P25 six", t.count(5), 6);
  }

  private static void fits() {
    SameParts t = Check.town(4, "a>c0;b>d0;c>d1");
    due("P26 all without ties", t.fits(123), 15);
    t.newcomer(0, 3, true);
    due("P26 as b", t.fits(123), 2);
    due("P26 as a and b to the part of c and d", t.fits(11), 1);
    due("P26 to d's part", t.fits(12), 1);
    due("P26 a part of all", t.fits(0), 1);
    t.gone();
    t.newcomer(1, 2, false);
    due("P26 from c: as d", t.fits(123), 8);
    t.newcomer(0, 1, false);
    due("P26 and from b", t.fits(123), 8);
    t.newcomer(0, 0, false);
    due("P26 from a, too", t.fits(123), 0);
    due("P26 from a's part", t.fits(11), 2);
    t.year(100);
    due("P26 of the year", t.fits(11), 0);
    due("P26 no parting", t.fits(2), -1);
    due("P26 lowest", t.fits(LOWEST), -1);
  }

  private static void gone() {
    SameParts t = Check.town(3, "a>b0");
    due("P27 none", t.gone(), 0);
    t.newcomer(0, 1, true);
    t.newcomer(0, 2, true);
    due("P27 nothing fits", t.fits(12), 0);
    due("P27 two", t.gone(), 2);
    due("P27 no more", t.gone(), 0);
    due("P27 all fit", t.fits(12), 7);
    due("P27 the first again", t.newcomer(0, 1, true), 1);
    due("P27 as a", t.fits(12), 1);
  }

  private static void shift() {
    SameParts t = Check.town(3, "a>b0@10-20");
    due("P28 of one part to three", t.shift(0, 10, 3), 2);
    due("P28 back", t.shift(10, 0, 3), 2);
    due("P28 none", t.shift(10, 19, 3), 0);
    due("P28 marks stay", t.shift(0, 10, 0), 0);
    due("P28 up to 100", t.shift(100, 19, 4), 2);
    due("P28 up to 100 the other way", t.shift(19, 100, 4), 2);
    due("P28 the year is as it was", t.tie(0, 0, 1), 0);
    // {a}{b}{c, d} and {a, b}{c}{d}: a and c keep theirs
    t = Check.town(4, "a>b0@0-10;c>d0@10-20");
    due("P28 renamed as is best", t.shift(0, 10, 3), 2);
    // {a, c}{b}{d} and {a}{b, d}{c}
    t = Check.town(4, "a>b0@0-1;c>b0@0-1;a>b0@1-2;a>d0@1-2");
    due("P28 renamed from the other end", t.shift(0, 1, 4), 2);
    due("P28 no kind", t.shift(0, 0, 5), -1);
    due("P28 no kind is told first", t.shift(-1, 101, -1), -1);
    due("P28 below", t.shift(-1, 0, 0), -4);
    due("P28 below is told first", t.shift(101, -1, 0), -4);
    due("P28 above", t.shift(101, 0, 0), -6);
    due("P28 the other above", t.shift(0, HIGHEST, 0), -6);
  }

  private static void stays() {
    SameParts t = Check.town(3, "a>b0@10-20");
    due("P29 till it begins", t.stays(0, 3), 10);
    due("P29 till it ends", t.stays(10, 3), 10);
    due("P29 from within", t.stays(15, 3), 5);
    due("P29 till 100", t.stays(20, 3), 81);
    due("P29 the last year", t.stays(100, 3), 1);
    due("P29 marks", t.stays(0, 0), 101);
    due("P29 the year is as it was", t.count(3), 0);
    Check.say(t, "a>b0*3@15-30");
    due("P29 by other ties", t.stays(10, 2), 20);
    Check.say(t, "a>c0");
    due("P29 no ties on 100", t.stays(30, 1), 70);
    due("P29 100 is as the others", Check.town(2, "a>b0;b>a0").stays(0, 3), 101);
    due("P29 no kind", t.stays(0, 5), -1);
    due("P29 no kind is told first", t.stays(-1, -1), -1);
    due("P29 below", t.stays(-1, 0), -4);
    due("P29 above", t.stays(101, 0), -6);
    due("P29 highest", t.stays(HIGHEST, 0), -6);
  }

  private static void count() {
    SameParts t = Check.town(3, "a>b0;a>b0*2;a>b1;b>a0@0-1;c>a0@1-2");
    due("P30 persons", t.count(0), 3);
    due("P30 told", t.count(1), 5);
    due("P30 there", t.count(2), 3);
    t.year(2);
    due("P30 there then", t.count(2), 2);
    due("P30 year", t.count(3), 2);
    t.feed(3, 0);
    due("P30 tape", t.count(4), 3);
    t.newcomer(0, 0, true);
    due("P30 newcomer", t.count(5), 1);
    t.untie(9);
    t.least(1, 7);
    t.least(1, -7);
    t.year(-1);
    t.year(-2);
    t.year(-3);
    t.feed(9, 0);
    due("P30 refused -1", t.count(11), 1);
    due("P30 refused -2", t.count(12), 2);
    due("P30 refused -3", t.count(13), 0);
    due("P30 refused -4", t.count(14), 3);
    due("P30 refused -5", t.count(15), 0);
    due("P30 refused -6", t.count(16), 1);
    for (int what : new int[] {-1, 6, 7, 8, 9, 10, 17, LOWEST, HIGHEST}) {
      due("P30 another what " + what, t.count(what), -9);
    }
  }
}
