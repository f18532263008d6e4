/** Terms, ==== 3.: what it would be; promises 24 to 36. */
final class EdgesOfQuestions {
  private static final String TERMS = "Terms";
  private static final int NONE = Edge.NONE;
  private static final int MIN = Edge.MIN;
  private static final int MAX = Edge.MAX;

  static void all(Edge e) {
    asOfTerm(e);
    asOfCreditAndStaffAsNow(e);
    asOfAsked(e);
    asOfNone(e);
    hireTerm(e);
    hireAsked(e);
    hireNone(e);
    withoutTerm(e);
    withoutAsked(e);
    withoutNone(e);
    keyTerm(e);
    keyAsked(e);
    keyNone(e);
    lapsedTerm(e);
    lapsedAsked(e);
    lapsedNone(e);
    soonTerm(e);
    soonAsked(e);
    soonNone(e);
    loopsTerm(e);
    loopsAsked(e);
    loopsNone(e);
    leastTerm(e);
    leastAsked(e);
    leastNone(e);
    directTerm(e);
    directAsked(e);
    directNone(e);
    takeTerm(e);
    takeAsked(e);
    takeNone(e);
    twiceTerm(e);
    twiceAsked(e);
    twiceNone(e);
    grossTerm(e);
    grossAsked(e);
    grossNone(e);
    worthTerm(e);
    worthAsked(e);
    worthNone(e);
  }

  private static void asOfTerm(Edge e) {
    e.says(TERMS, "AS OF a YEAR (0 .. 199): BEST as by LINKS, TREATIES of that YEAR");
    Given g = Given.book("land a 100 0 0;land b 0 0 0;firm x a 0;firm y b 0;owns y x 20 30;treaty a b 40 5 60 0 0 20 0 0;ends a b 70");
    int[][] due = {{0, NONE}, {29, NONE}, {30, 900}, {39, 900}, {40, 940}, {49, 940}, {50, 995}, {69, 995}, {70, 900}, {199, 900}};
    for (int[] d : due) e.run(g, "asOf(0, 0, 1, 1000, " + d[0] + ", 0)", d[1], "asOf(0, 0, 1, 1000, " + d[0] + ", 1)", d[1] == NONE ? NONE : 1, "all(0)", 50);
    for (int wrong : new int[] {-1, 200, MIN, MAX}) e.refused(g, "asOf(0, 0, 1, 1000, " + wrong + ", 0)", NONE);
    Given always = Given.book("land a 0 0 0;firm x a 0;firm y a 0;lends y x 0");
    e.bounds(always, "asOf(1, 0, 1, 9, #, 0)", 0, 9, 199, 9, NONE);
  }

  private static void asOfCreditAndStaffAsNow(Edge e) {
    e.says(TERMS, "(CREDIT, STAFF as now).");
    Given credit = Given.book(Fixed.LOANS).and("pay(1, 0, 2, 1000)");
    e.run(credit, "asOf(1, 0, 2, 1000, 60, 0)", 900, "asOf(1, 0, 2, 1000, 59, 0)", 700, "undo()", 0, "asOf(1, 0, 2, 1000, 60, 0)", 800);
    Given staff = Given.book("land a 0 100 0;land b 0 0 0;firm x a 0;firm y b 3;lends y x 0;treaty a b 60 0 0 0 0 0 4 0");
    e.run(staff, "asOf(1, 0, 1, 1000, 60, 0)", 900, "staff(1, 4)", 3, "asOf(1, 0, 1, 1000, 60, 0)", 1000, "asOf(1, 0, 1, 1000, 59, 0)", 900);
  }

  private static void asOfAsked(Edge e) {
    e.says("Promise 24", "AS OF a YEAR: what ARRIVES (0), HOPS (1).");
    AsBest.taken(e, "asOf(%d, %d, %d, %d, 0, 0)", 1, 1000000, 1000, 1000, 1000);
    AsBest.taken(e, "asOf(%d, %d, %d, %d, 199, 1)", 1, 1, 1, 1, 5);
    e.run(Given.book(Fixed.BOOK), "asOf(0, 0, 2, 1000, 29, 0)", 880, "asOf(0, 0, 2, 1000, 29, 1)", 1, "asOf(0, 0, 2, 1000, 50, 1)", 2);
  }

  private static void asOfNone(Edge e) {
    e.says("Promise 24", "NONE: as best(), YEAR out of bounds.");
    AsBest.refusals(e, "asOf(%d, %d, %d, %d, 50, 0)");
    e.bounds(Fixed.busy(), "asOf(1, 0, 2, 1000, 51, #)", 0, 970, 1, 1, NONE);
    e.run(Fixed.busy(), "asOf(0, 0, 2, 1000, 20, 0)", 880, "asOf(0, 0, 2, 1000, 199, 0)", 882);
    for (int wrong : new int[] {19, 0, -1, 200, MIN, MAX}) e.refused(Fixed.busy(), "asOf(0, 0, 2, 1000, " + wrong + ", 0)", NONE);
    e.refused(Given.NEW, "asOf(0, 0, 1, 1, 0, 0)", NONE);
  }

  /** Interest p, q, r, s; where a HOP leads on to another LAND, more STAFF is asked for and less is kept back. */
  private static Given staffAsked(int asked, int inTreaty) {
    return Given.book("land a 0 100 0;land b 0 0 0;firm p a 9;firm q b 9;lends q p 0;treaty a b 0 0 0 " + inTreaty + " 0 0 " + asked + " 0");
  }

  private static void hireTerm(Edge e) {
    e.says(TERMS, "HIRE of a FIRM: the least STAFF (0 .. 99) of it by which most ARRIVES, all else so.");
    for (int asked : new int[] {0, 1, 9, 10, 98, 99}) e.run(staffAsked(asked, 0), "hire(1, 0, 1, 1000, 1)", asked, "hire(1, 0, 1, 1000, 0)", 0, "firm(1, 1)", 9);
    for (int asked : new int[] {0, 1, 99}) e.is(staffAsked(asked, 101), "hire(1, 0, 1, 1000, 1)", 0);
    e.is(staffAsked(50, 100), "hire(1, 0, 1, 1000, 1)", 0);
    e.run(staffAsked(50, 99), "hire(1, 0, 1, 1000, 1)", 50, "hire(1, 0, 1, 10, 1)", 50, "hire(1, 0, 1, 9, 1)", 0);
    e.is(staffAsked(50, 200), "hire(1, 0, 1, 1000, 1)", 0);
    Given steps = Given.book("land a 0 100 0;land b 0 100 0;land c 0 0 0;firm p a 0;firm q b 0;firm r c 0;lends q p 0;lends r q 0;treaty a b 0 0 0 50 0 0 10 0;treaty b c 0 0 0 0 0 0 20 0");
    e.run(steps, "hire(1, 0, 2, 1000, 1)", 10, "hire(1, 0, 2, 1000, 2)", 20, "hire(1, 0, 2, 1000, 0)", 0);
    Given both = Given.book("land a 0 100 0;land b 0 0 0;land c 0 100 0;firm p a 0;firm q b 0;firm r c 0;firm s b 0;lends q p 0;lends r q 0;lends q r 0;treaty a b 0 0 0 50 0 0 10 0;treaty c b 0 0 0 0 0 0 30 0");
    e.run(both, "hire(1, 0, 1, 1000, 1)", 10, "hire(1, 2, 1, 1000, 1)", 30);

    Given changed = staffAsked(50, 99).and("pass(1)", "lend(1, 0)", "staff(1, 5)", "own(1, 0, 9)");
    e.run(changed, "hire(1, 0, 1, 1000, 1)", NONE, "hire(0, 0, 1, 1000, 1)", 0, "lend(1, 0)", 1, "hire(1, 0, 1, 1000, 1)", 50, "undo()", 4, "hire(1, 0, 1, 1000, 1)", NONE);
  }

  private static void hireAsked(Edge e) {
    e.says("Promise 25", "HIRE.");
    AsBest.taken(e, "hire(%d, %d, %d, %d, 3)", 0, 0, 0, 0, 0);
    e.run(Given.book(Fixed.BOOK), "hire(0, 0, 2, 1000, 1)", 4, "hire(0, 0, 2, 1000, 2)", 0, "best(0, 0, 2, 1000, 0)", 882);
  }

  private static void hireNone(Edge e) {
    e.says("Promise 25", "NONE: as best() (no WAY by any STAFF), no such FIRM.");
    AsBest.refusals(e, "hire(%d, %d, %d, %d, 1)");
    e.bounds(Fixed.busy(), "hire(0, 0, 2, 1000, #)", 0, 0, 2, 0, NONE);
    e.bounds(Fixed.eightInARing(), "hire(0, 0, 1, 1000, #)", 0, 0, 7, 0, NONE);
    e.refused(Fixed.busy(), "hire(0, 2, 0, 1000, 1)", NONE);
    e.refused(Given.NEW, "hire(0, 0, 1, 1, 0)", NONE);
  }

  private static void withoutTerm(Edge e) {
    e.says(TERMS, "WITHOUT a FIRM: what ARRIVES by a BEST WAY that does not touch it.");
    e.is(Given.book(Fixed.BOOK), "without(0, 0, 2, 1000, 1)", 880);
    e.run(Fixed.eightInARing(), "without(1, 0, 5, 1000, 6)", 1000, "without(1, 0, 5, 1000, 7)", 1000, "without(1, 0, 5, 1000, 4)", NONE, "without(1, 0, 5, 1000, 1)", NONE);
    Given longer = Given.book("land a 0 0 0;firm p a 0;firm q a 0;firm r a 0;firm s a 0;lends q p 0;lends s q 0;lends r p 0;lends q r 0");
    e.run(longer, "without(1, 0, 3, 9, 2)", 9, "without(1, 0, 3, 9, 1)", NONE, "loops(1, 0, 3)", 2);
  }

  private static void withoutAsked(Edge e) {
    e.says("Promise 26", "WITHOUT.");
    e.run(Fixed.eightInARing(), "without(0, 0, 1, 1, 7)", 1, "without(0, 0, 1, 1000000, 2)", 1000000, "without(1, 7, 0, 1000, 1)", 1000, "without(1, 6, 7, 1000, 0)", 1000);
  }

  private static void withoutNone(Edge e) {
    e.says("Promise 26", "NONE: as best() (no such WAY), no such FIRM, it is FROM or TO.");
    AsBest.refusals(e, "without(%d, %d, %d, %d, 3)");
    for (int wrong : new int[] {0, 2, -1, 3, MIN, MAX}) e.refused(Fixed.busy(), "without(0, 0, 2, 1000, " + wrong + ")", NONE);
    e.refused(Fixed.eightInARing(), "without(0, 0, 1, 1000, 8)", NONE);
    e.refused(Fixed.eightInARing(), "without(0, 7, 0, 1000, 7)", NONE);
    e.refused(Fixed.eightInARing(), "without(0, 6, 7, 1000, 7)", NONE);
    e.refused(Fixed.eightInARing(), "without(0, 0, 5, 1000, 3)", NONE);
    e.refused(Given.NEW, "without(0, 0, 1, 1, 2)", NONE);
  }

  private static void keyTerm(Edge e) {
    e.says(TERMS, "KEY: the FIRM without which least ARRIVES (no WAY: less than all; of several the lowest; not FROM, TO).");
    e.is(Given.book(Fixed.BOOK), "key(0, 0, 2, 1000)", 1);
    String four = "land a 0 0 0;land b 0 0 100;land c 0 0 200;firm p a 0;firm q b 0;firm r c 0;firm s a 0;lends q p 0;lends s q 0;lends r p 0;lends s r 0";
    e.run(Given.book(four), "without(1, 0, 3, 1000, 1)", 800, "without(1, 0, 3, 1000, 2)", 900, "key(1, 0, 3, 1000)", 1);
    e.run(Given.book(four.replace("b 0 0 100", "b 0 0 300")), "without(1, 0, 3, 1000, 1)", 800, "without(1, 0, 3, 1000, 2)", 700, "key(1, 0, 3, 1000)", 2);
    e.run(Given.book(four.replace("b 0 0 100", "b 0 0 200")), "key(1, 0, 3, 1000)", 1);
    Given chain = Given.book("land a 0 1000 0;land b 0 0 0;firm p a 0;firm q a 0;firm r a 0;firm s b 0;lends r p 0;lends s r 0");
    e.run(chain, "best(1, 0, 3, 9, 0)", 0, "without(1, 0, 3, 9, 1)", 0, "without(1, 0, 3, 9, 2)", NONE, "key(1, 0, 3, 9)", 2);
    e.run(Given.book("land a 0 0 0;firm p a 0;firm q a 0;firm r a 0;lends p r 0"), "key(1, 2, 0, 9)", 1);
    e.run(Given.book("land a 0 0 0;firm p a 0;firm q a 0;firm r a 0;lends q p 0"), "key(1, 0, 1, 9)", 2);
  }

  private static void keyAsked(Edge e) {
    e.says("Promise 27", "KEY.");
    AsBest.taken(e, "key(%d, %d, %d, %d)", 2, 2, 1, 0, 1);
  }

  private static void keyNone(Edge e) {
    e.says("Promise 27", "NONE: as best(), there are no others.");
    AsBest.refusals(e, "key(%d, %d, %d, %d)");
    e.refused(Given.book("land a 0 0 0;firm p a 0;firm q a 0;lends q p 0"), "key(1, 0, 1, 9)", NONE);
    e.is(Given.book("land a 0 0 0;firm p a 0;firm q a 0;firm r a 0;lends q p 0"), "key(1, 0, 1, 9)", 2);
    e.refused(Given.NEW, "key(0, 0, 1, 1)", NONE);
  }

  private static void lapsedTerm(Edge e) {
    e.says(TERMS, "LAPSED: what ARRIVES were the TREATY of two LANDS in force none.");
    e.run(Given.book(Fixed.BOOK), "lapsed(0, 0, 2, 1000, 0, 2)", 900, "lapsed(0, 0, 2, 1000, 2, 0)", 900, "lapsed(0, 0, 2, 1000, 2, 1)", 900, "lapsed(0, 0, 2, 1000, 0, 1)", 882);
    String book = "land a 0 100 0;land b 0 0 0;land c 0 0 0;firm p a 0;firm q b 0;firm r c 0;lends q p 0;lends r q 0;treaty a b %d 0 0 20 0 0 0 %d;treaty b a 0 0 0 30 0 0 0 0;treaty a c 0 0 0 0 0 0 0 0";
    e.run(Given.book(String.format(book, 10, 0)), "best(1, 0, 1, 1000, 0)", 980, "lapsed(1, 0, 1, 1000, 0, 1)", 900, "lapsed(1, 0, 1, 1000, 1, 2)", 980);
    e.run(Given.book(String.format(book, 51, 0)), "best(1, 0, 1, 1000, 0)", 970, "lapsed(1, 0, 1, 1000, 1, 0)", 900);
    e.run(Given.book(String.format(book, 10, 2)), "best(1, 0, 2, 1000, 0)", 980, "lapsed(1, 0, 2, 1000, 0, 2)", 900, "lapsed(1, 0, 2, 1000, 1, 2)", 980);
    e.run(Given.book(String.format(book, 10, 0)), "lapsed(1, 0, 1, 1000, 0, 1)", 900, "best(1, 0, 1, 1000, 0)", 980, "asOf(1, 0, 1, 1000, 50, 0)", 980, "hire(1, 0, 1, 1000, 1)", 0, "treaty(0, 1, 50, 3)", 20);

    e.run(Given.book(String.format(book, 51, 0)).and("pass(1)"), "lapsed(1, 0, 1, 1000, 1, 2)", 980, "lapsed(1, 0, 1, 1000, 1, 0)", 900, "lend(1, 0)", 0, "lapsed(1, 0, 1, 1000, 1, 2)", NONE);
  }

  private static void lapsedAsked(Edge e) {
    e.says("Promise 28", "LAPSED.");
    AsBest.taken(e, "lapsed(%d, %d, %d, %d, 0, 1)", 1, 1000000, 1000, 1000, 1000);
    AsBest.taken(e, "lapsed(%d, %d, %d, %d, 1, 0)", 1, 1000000, 1000, 1000, 1000);
  }

  private static void lapsedNone(Edge e) {
    e.says("Promise 28", "NONE: as best(), no such LANDS (unlike).");
    AsBest.refusals(e, "lapsed(%d, %d, %d, %d, 0, 1)");
    for (int land = 0; land < 3; land++) e.refused(Fixed.busy(), "lapsed(0, 0, 2, 1000, " + land + ", " + land + ")", NONE);
    for (int wrong : new int[] {-1, 3, MIN, MAX}) {
      e.refused(Fixed.busy(), "lapsed(0, 0, 2, 1000, " + wrong + ", 0)", NONE);
      e.refused(Fixed.busy(), "lapsed(0, 0, 2, 1000, 0, " + wrong + ")", NONE);
    }
    e.run(Fixed.busy(), "lapsed(0, 0, 2, 1000, 0, 2)", 900, "lapsed(0, 0, 2, 1000, 2, 0)", 900);
    e.refused(Given.NEW, "lapsed(0, 0, 1, 1, 0, 1)", NONE);
  }

  private static void soonTerm(Edge e) {
    e.says(TERMS, "SOON: the first YEAR from now on (20 ahead at most) AS OF which most ARRIVES.");
    String book = "land a 0 100 0;land b 0 0 0;firm p a 0;firm q b 0;lends q p 0;year 30;treaty a b %d 0 0 0 0 0 0 0";
    for (int from : new int[] {31, 49, 50}) e.is(Given.book(String.format(book, from)), "soon(1, 0, 1, 1000)", from);
    e.is(Given.book(String.format(book, 51)), "soon(1, 0, 1, 1000)", 30);
    e.is(Given.book(String.format(book, 30)), "soon(1, 0, 1, 1000)", 30);
    e.is(Given.book(String.format(book, 0)), "soon(1, 0, 1, 1000)", 30);
    e.is(Given.book(String.format(book, 40) + ";ends a b 35"), "soon(1, 0, 1, 1000)", 40);
    e.is(Given.book(String.format(book, 0) + ";ends a b 31"), "soon(1, 0, 1, 1000)", 30);
    e.run(Given.book(String.format(book, 40)), "soon(1, 0, 1, 9)", 30, "soon(1, 0, 1, 10)", 40, "all(0)", 30);
    Given late = Given.book("land a 100 0 0;land b 0 0 0;firm p a 0;firm q b 0;treaty a b 0 0 50 0 0 20 0 0;year 99").times(4, "pass(20)");
    e.run(late, "own(1, 0, 5)", 0, "soon(0, 0, 1, 1000)", 199);
    e.run(late.and("pass(1)"), "own(1, 0, 5)", 0, "soon(0, 0, 1, 1000)", 180);
    e.run(late.and("pass(20)"), "own(1, 0, 5)", 0, "soon(0, 0, 1, 1000)", 199);
  }

  private static void soonAsked(Edge e) {
    e.says("Promise 29", "SOON.");
    AsBest.taken(e, "soon(%d, %d, %d, %d)", 50, 50, 50, 50, 50);
    e.is(Given.book(Fixed.LOANS), "soon(1, 0, 2, 1000)", 60);
  }

  private static void soonNone(Edge e) {
    e.says("Promise 29", "NONE: as best() (no WAY AS OF any of these YEARS).");
    AsBest.refusals(e, "soon(%d, %d, %d, %d)");
    String since = "land a 0 0 0;firm p a 0;firm q a 0;year 30;lends q p ";
    e.run(Given.book(since + "50"), "best(1, 0, 1, 9, 0)", NONE, "soon(1, 0, 1, 9)", 50);
    e.is(Given.book(since + "31"), "soon(1, 0, 1, 9)", 31);
    e.refused(Given.book(since + "51"), "soon(1, 0, 1, 9)", NONE);
    e.refused(Given.NEW, "soon(0, 0, 1, 1)", NONE);
  }

  private static void loopsTerm(Edge e) {
    e.says(TERMS, "LOOPS: how many WAYS there are.");
    e.run(Given.book(Fixed.BOOK), "loops(0, 0, 2)", 2, "loops(1, 0, 2)", 1, "loops(0, 2, 0)", 0, "loops(1, 1, 2)", 0);
    Given later = Given.book("land a 0 0 0;firm p a 0;firm q a 0;firm r a 0;lends q p 0;lends r q 51;lends r p 50");
    e.run(later, "loops(1, 0, 2)", 1, "pass(1)", 51, "loops(1, 0, 2)", 2);
  }

  private static void loopsAsked(Edge e) {
    e.says("Promise 30", "LOOPS.");
    e.run(Fixed.eightInARing(), "loops(0, 0, 1)", 1, "loops(1, 7, 0)", 1, "loops(0, 6, 7)", 1, "loops(1, 0, 5)", 1, "loops(1, 0, 6)", 0);
  }

  private static void loopsNone(Edge e) {
    e.says("Promise 30", "NONE: no such ones, both are one.");
    for (int wrong : new int[] {-1, 2, MIN, MAX}) e.refused(Fixed.eightInARing(), "loops(" + wrong + ", 0, 1)", NONE);
    for (int wrong : new int[] {-1, 8, MIN, MAX}) {
      e.refused(Fixed.eightInARing(), "loops(0, " + wrong + ", 1)", NONE);
      e.refused(Fixed.eightInARing(), "loops(0, 0, " + wrong + ")", NONE);
      e.refused(Fixed.eightInARing(), "loops(0, " + wrong + ", " + wrong + ")", NONE);
    }
    for (int one : new int[] {0, 7}) e.refused(Fixed.eightInARing(), "loops(0, " + one + ", " + one + ")", NONE);
    e.refused(Given.NEW, "loops(0, 0, 1)", NONE);
  }

  private static void leastTerm(Edge e) {
    e.says(TERMS, "LEAST WITHHELD: the WAY (of BEST's rules for like ones) by which WITHHELD of all HOPS added up is least: how much.");
    Given unlike = Given.book("land a 0 100 0;land b 0 0 900;land c 0 0 0;firm p a 0;firm s b 0;firm r b 0;firm t c 0;lends t p 0;lends s p 0;lends t s 0;treaty a b 0 0 0 99 0 0 0 0");
    e.run(unlike, "best(1, 0, 3, 1000, 0)", 900, "best(1, 0, 3, 1000, 2)", 100, "least(1, 0, 3, 1000, 0)", 99, "least(1, 0, 3, 1000, 1)", 2, "least(1, 0, 3, 1000, 2)", 100,
        "least(1, 0, 3, 9, 0)", 0, "least(1, 0, 3, 9, 1)", 1, "least(1, 0, 3, 10, 0)", 0, "least(1, 0, 3, 10, 1)", 2, "best(1, 0, 3, 1000, 2)", 100);
    String firms = "land a 0 0 0;land b 0 0 100;land c 0 0 0;firm p a 0;firm q b 0;firm r a 0;firm s a 0;";
    e.run(Given.book(firms + "lends q p 0;lends s q 0;lends r p 0;lends s r 0"), "best(1, 0, 3, 1000, 0)", 1000, "least(1, 0, 3, 1000, 0)", 0, "least(1, 0, 3, 1000, 1)", 2, "least(1, 0, 3, 1000, 2)", 900);
    e.run(Given.book(firms + "lends q p 0;lends r q 0;lends s r 0;lends s p 0"), "least(1, 0, 3, 1000, 1)", 1, "least(1, 0, 3, 1000, 2)", 1000);
    Given addedUp = Given.book("land a 0 50 0;land b 0 60 0;land c 0 0 0;firm p a 0;firm q b 0;firm r c 0;lends r p 0;lends q p 0;lends r q 0;treaty a c 0 0 0 107 0 0 0 0");
    e.run(addedUp, "least(1, 0, 2, 1000, 0)", 107, "least(1, 0, 2, 1000, 1)", 1);
    e.run(Given.book("land a 0 50 0;land b 0 60 0;land c 0 0 0;firm p a 0;firm q b 0;firm r c 0;lends r p 0;lends q p 0;lends r q 0;treaty a c 0 0 0 108 0 0 0 0"),
        "least(1, 0, 2, 1000, 0)", 107, "least(1, 0, 2, 1000, 1)", 2);
  }

  private static void leastAsked(Edge e) {
    e.says("Promise 31", "LEAST WITHHELD: how much (0), its HOPS (1), what ARRIVES by it (2).");
    AsBest.taken(e, "least(%d, %d, %d, %d, 0)", 0, 0, 0, 0, 0);
    AsBest.taken(e, "least(%d, %d, %d, %d, 1)", 1, 1, 1, 1, 5);
    AsBest.taken(e, "least(%d, %d, %d, %d, 2)", 1, 1000000, 1000, 1000, 1000);
  }

  private static void leastNone(Edge e) {
    e.says("Promise 31", "NONE: as best().");
    AsBest.refusals(e, "least(%d, %d, %d, %d, 0)");
    e.bounds(Fixed.busy(), "least(0, 0, 2, 1000, #)", 0, 118, 2, 882, NONE);
    e.refused(Given.NEW, "least(0, 0, 1, 1, 0)", NONE);
  }

  private static void directTerm(Edge e) {
    e.says(TERMS, "DIRECT: what ARRIVES by one HOP.");
    e.run(Given.book(Fixed.BOOK), "direct(0, 0, 2, 1000)", 880, "direct(1, 0, 2, 1000)", 970, "direct(0, 0, 1, 1000)", 900, "direct(0, 1, 2, 1000)", 980);
    Given owner = Given.book("land a 0 100 0;land b 0 0 0;firm p a 0;firm q b 0;lends q p 0;treaty a b 0 0 0 0 0 0 0 1");
    e.run(owner, "direct(1, 0, 1, 1000)", 1000);
    e.run(Given.book("land a 0 1000 0;land b 0 0 0;firm p a 0;firm q b 0;lends q p 0"), "direct(1, 0, 1, 1000000)", 0, "direct(1, 0, 1, 1)", 0);
  }

  private static void directAsked(Edge e) {
    e.says("Promise 32", "DIRECT.");
    for (int sort = 0; sort < 2; sort++) {
      e.run(Fixed.eightInARing(), "direct(" + sort + ", 0, 1, 1)", 1, "direct(" + sort + ", 0, 1, 1000000)", 1000000, "direct(" + sort + ", 7, 0, 5)", 5, "direct(" + sort + ", 6, 7, 5)", 5);
    }
  }

  private static void directNone(Edge e) {
    e.says("Promise 32", "NONE: as best() (no such HOP).");
    AsBest.refusals(e, "direct(%d, %d, %d, %d)");
    e.refused(Fixed.eightInARing(), "direct(0, 0, 2, 5)", NONE);
    e.refused(Fixed.busy(), "direct(1, 1, 2, 5)", NONE);
    Given later = Given.book("land a 0 0 0;firm p a 0;firm q a 0;lends q p 51");
    e.refused(later, "direct(1, 0, 1, 5)", NONE);
    e.is(later.and("pass(1)"), "direct(1, 0, 1, 5)", 5);
    e.refused(Given.NEW, "direct(0, 0, 1, 1)", NONE);
  }

  private static void takeTerm(Edge e) {
    e.says(TERMS, "TAKE of a LAND: what it would take of the BEST WAY.");
    Given g = Given.book("land a 0 10 20;land b 0 30 40;land c 0 0 0;firm p a 0;firm q b 0;firm r a 0;firm s b 0;lends q p 0;lends r q 0;lends s r 0");
    e.run(g, "take(1, 0, 3, 1000, 0)", 19, "take(1, 0, 3, 1000, 1)", 58, "take(1, 0, 3, 1000, 2)", 0, "all(2)", 0, "pay(1, 0, 3, 1000)", 923, "land(0, 3)", 19, "land(1, 3)", 58);
  }

  private static void takeAsked(Edge e) {
    e.says("Promise 33", "TAKE of a LAND.");
    AsBest.taken(e, "take(%d, %d, %d, %d, 0)", 0, 0, 0, 0, 0);
    AsBest.taken(e, "take(%d, %d, %d, %d, 1)", 0, 0, 0, 0, 0);
    e.run(Given.book("land a 0 1000 0;land b 0 0 0;firm p a 0;firm q b 0;lends q p 0"), "take(1, 0, 1, 1, 0)", 1, "take(1, 0, 1, 1000000, 0)", 1000000, "take(1, 0, 1, 1000000, 1)", 0);
  }

  private static void takeNone(Edge e) {
    e.says("Promise 33", "NONE: as best(), no such LAND.");
    AsBest.refusals(e, "take(%d, %d, %d, %d, 0)");
    e.bounds(Fixed.busy(), "take(0, 0, 2, 1000, #)", 0, 100, 2, 0, NONE);
    e.bounds(Given.book("land a 1 0 0;land b 2 0 0;land c 3 0 0;land d 4 0 0;land e 5 0 0;land f 6 0 0;firm x a 0;firm y f 0;owns y x 5 0"), "take(0, 0, 1, 1000, #)", 0, 1, 5, 0, NONE);
    e.refused(Given.NEW, "take(0, 0, 1, 1, 0)", NONE);
  }

  private static void twiceTerm(Edge e) {
    e.says(TERMS, "TWICE: what ARRIVES in all, were the AMOUNT PAID twice.");
    e.is(Given.book(Fixed.BOOK), "twice(0, 0, 2, 1000)", 1764);
    Given used = Given.book(Fixed.LOANS).and("pay(1, 0, 2, 1000)", "pass(10)");
    e.run(used, "twice(1, 0, 2, 1000)", 900 + 800, "firm(1, 2)", 100, "all(3)", 700, "count(3)", 2, "best(1, 0, 2, 1000, 0)", 900);
    Given grows = Given.book("land a 0 100 0;land b 0 0 0;firm p a 0;firm q b 0;firm r b 0;lends q p 0;lends r q 0;land c 0 0 300;firm t c 0;lends t p 0;lends r t 0");
    e.is(grows, "twice(1, 0, 2, 1000)", 1800);
    Given switches = Given.book("land a 0 0 0;land b 0 0 200;land c 0 0 100;firm p a 0;firm q b 0;firm r c 0;firm s a 0;firm v a 0;land d 0 300 0;firm w d 0;lends q w 0;lends v q 0;lends q p 0;lends s q 0;lends r p 0;lends s r 0")
        .and("pay(1, 5, 4, 2000)");
    e.run(switches, "firm(1, 2)", 200, "best(1, 0, 3, 1000, 0)", 1000, "stop(1, 0, 3, 1000, 0, 0)", 1, "twice(1, 0, 3, 1000)", 1900);
  }

  private static void twiceAsked(Edge e) {
    e.says("Promise 34", "TWICE.");
    AsBest.taken(e, "twice(%d, %d, %d, %d)", 2, 2000000, 2000, 2000, 2000);
  }

  private static void twiceNone(Edge e) {
    e.says("Promise 34", "NONE: as best().");
    AsBest.refusals(e, "twice(%d, %d, %d, %d)");
    e.refused(Given.NEW, "twice(0, 0, 1, 1)", NONE);
  }

  /** Of what p pays q half is kept back. */
  private static Given half() {
    return Given.book("land a 0 500 0;land b 0 0 0;firm p a 0;firm q b 0;lends q p 0");
  }

  private static void grossTerm(Edge e) {
    e.says(TERMS, "GROSS of a sum (1 .. 1,000,000): the least AMOUNT of which no less ARRIVES by its BEST WAY.");
    e.run(half(), "gross(1, 0, 1, 1)", 1, "gross(1, 0, 1, 2)", 3, "gross(1, 0, 1, 3)", 5, "gross(1, 0, 1, 499999)", 999997, "gross(1, 0, 1, 500000)", 999999, "gross(1, 0, 1, 500001)", NONE,
        "best(1, 0, 1, 999999, 0)", 500000, "best(1, 0, 1, 999998, 0)", 499999, "best(1, 0, 1, 1000000, 0)", 500000);
    e.bounds(Fixed.eightInARing(), "gross(1, 0, 5, #)", 1, 1, 1000000, 1000000, NONE);
    Given plain = Given.book(Fixed.BOOK);
    e.run(plain, "gross(0, 0, 2, 882)", 998, "best(0, 0, 2, 998, 0)", 882, "best(0, 0, 2, 997, 0)", 881, "gross(0, 0, 2, 1)", 1, "gross(0, 0, 2, 882000)", 999998, "gross(0, 0, 2, 882001)", NONE);
    Given credit = Given.book(Fixed.LOANS).and("pay(1, 0, 2, 1000)", "pass(10)");
    e.run(credit, "gross(1, 0, 2, 900)", 999, "best(1, 0, 2, 1000, 0)", 900, "best(1, 0, 2, 999, 0)", 900, "best(1, 0, 2, 998, 0)", 899);
  }

  private static void grossAsked(Edge e) {
    e.says("Promise 35", "GROSS.");
    AsBest.taken(e, "gross(%d, %d, %d, %d)", 1, 1000000, 1000, 1000, 1000);
  }

  private static void grossNone(Edge e) {
    e.says("Promise 35", "NONE: as best() (of the sum), there is none.");
    AsBest.refusals(e, "gross(%d, %d, %d, %d)");
    Given all = Given.book("land a 0 1000 0;land b 0 0 0;firm p a 0;firm q b 0;lends q p 0");
    e.refused(all, "gross(1, 0, 1, 1)", NONE);
    e.refused(half(), "gross(1, 0, 1, 500001)", NONE);
    e.refused(half(), "gross(1, 0, 1, 1000000)", NONE);
    e.is(half(), "gross(1, 0, 1, 500000)", 999999);
    e.refused(Given.NEW, "gross(0, 0, 1, 1)", NONE);
  }

  private static void worthTerm(Edge e) {
    e.says(TERMS, "WORTH of a LINK: how much less ARRIVES by the BEST WAY, were it gone (the whole, if there is no WAY then).");
    e.run(Given.book(Fixed.BOOK), "worth(0, 0, 2, 1000, 0)", 2, "worth(0, 0, 2, 1000, 1)", 2, "worth(0, 0, 2, 1000, 2)", 0, "worth(0, 0, 2, 1000, 3)", 0, "worth(1, 0, 2, 1000, 3)", 970, "count(6)", 4);
    Given nothing = Given.book("land a 0 1000 0;land b 0 0 0;firm p a 0;firm q b 0;lends q p 0");
    e.is(nothing, "worth(1, 0, 1, 1000, 0)", 0);
    e.run(Fixed.eightInARing(), "worth(1, 0, 5, 1000, 0)", 1000, "worth(1, 0, 5, 1000, 4)", 1000, "worth(1, 0, 5, 1000, 5)", 0, "worth(1, 0, 5, 1000, 8)", 0, "worth(0, 0, 5, 1000, 8)", 1000);
  }

  private static void worthAsked(Edge e) {
    e.says("Promise 36", "WORTH of the k-th LINK.");
    AsBest.taken(e, "worth(%d, %d, %d, %d, 5)", 0, 0, 0, 0, 0);
    e.run(Fixed.eightInARing(), "worth(1, 0, 1, 1, 0)", 1, "worth(1, 0, 1, 1000000, 0)", 1000000, "worth(0, 7, 0, 1000, 15)", 1000, "worth(1, 7, 0, 1000, 15)", 0);
    Given later = Given.book("land a 0 0 0;firm p a 0;firm q a 0;lends q p 0;owns q p 5 99");
    e.is(later, "worth(1, 0, 1, 9, 1)", 0);
  }

  private static void worthNone(Edge e) {
    e.says("Promise 36", "NONE: as best(), no such LINK.");
    AsBest.refusals(e, "worth(%d, %d, %d, %d, 5)");
    e.bounds(Fixed.busy(), "worth(0, 0, 2, 1000, #)", 0, 2, 5, 0, NONE);
    e.bounds(Fixed.eightInARing(), "worth(0, 7, 0, 1000, #)", 0, 0, 15, 1000, NONE);
    e.refused(Given.NEW, "worth(0, 0, 1, 1, 0)", NONE);
  }
}
