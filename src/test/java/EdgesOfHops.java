/** Terms, ==== 2., the first part: YEAR, TREATIES, LINKS, HOPS; promises 6 to 11. */
final class EdgesOfHops {
  private static final String TERMS = "Terms";
  private static final int NONE = Edge.NONE;
  /** LAW of a: 111, 222; y in b has 3 of STAFF, 20 of x since 40, and lends since 40; z is in b, o in c, w in a. */
  private static final String HOP = "land a 111 222 0;land b 333 444 0;land c 0 0 0;firm x a 0;firm y b 3;firm z b 0;firm o c 0;firm w a 0;owns y x 20 40;lends y x 40;";
  private static final Given NAMES = Given.book("land abcdefgh 0 0 0;land z 0 0 0;firm stuvwxyz z 0;firm q z 0");
  private static final Given TREATIES = Given.book("land a 0 0 0;land b 0 0 0;land c 0 0 0;firm x a 0;treaty b a 0 11 12 13 14 15 16 2;treaty a b 99 1 2 3 4 5 6 1");
  private static final int Y = 1;
  private static final int Z = 2;
  private static final int O = 3;
  private static final int W = 4;

  static void all(Edge e) {
    terms(e);
    articles(e);
    landAsked(e);
    landNone(e);
    firmAsked(e);
    firmLinksEitherWay(e);
    firmThrows(e);
    nameAsked(e);
    nameNone(e);
    linkAsked(e);
    linkNone(e);
    treatyAsked(e);
    treatyNone(e);
    hopAsked(e);
    hopNone(e);
  }

  private static void terms(Edge e) {
    yearIsAsTold(e);
    creditZeroAtFirst(e);
    treatyWithTheLatestFrom(e);
    treatyToldLast(e);
    treatyEnds(e);
    linkIsThere(e);
    hopOfASort(e);
  }

  private static void yearIsAsTold(Edge e) {
    e.says(TERMS, "YEAR is as told.");
    for (int year : new int[] {0, 1, 50, 98, 99}) e.is(Given.book("land a 0 0 0;firm x a 0;year " + year), "all(0)", year);
    e.is(Given.book("land a 0 0 0;firm x a 0"), "all(0)", 50);
  }

  private static void creditZeroAtFirst(Edge e) {
    e.says(TERMS, "A FIRM has STAFF, CREDIT (0 at first).");
    e.run(Given.book("land a 0 0 0;firm x a 99;firm y a 0"), "firm(0, 1)", 99, "firm(0, 2)", 0, "firm(1, 1)", 0, "firm(1, 2)", 0, "all(1)", 0);
  }

  private static final String LANDS = "land a 0 0 0;land b 0 0 0;land c 0 0 0;firm x a 0;";

  private static void treatyWithTheLatestFrom(Edge e) {
    e.says(TERMS, "The TREATY of two LANDS in a YEAR: of those told of both (either one first) with FROM no later that with the latest FROM,");
    Given g = Given.book(LANDS + "treaty b a 30 3 0 0 0 0 0 0;treaty a b 10 1 0 0 0 0 0 0;treaty b a 20 2 0 0 0 0 0 0;treaty a c 0 9 0 0 0 0 0 0");
    int[][] due = {{0, NONE}, {9, NONE}, {10, 1}, {19, 1}, {20, 2}, {29, 2}, {30, 3}, {199, 3}};
    for (int[] d : due) {
      e.is(g, "treaty(0, 1, " + d[0] + ", 1)", d[1]);
      e.is(g, "treaty(1, 0, " + d[0] + ", 1)", d[1]);
    }
    e.run(g, "treaty(0, 2, 0, 1)", 9, "treaty(2, 0, 199, 1)", 9, "treaty(1, 2, 50, 1)", NONE);
    e.run(Given.book(LANDS + "treaty b a 0 3 0 0 0 0 0 0"), "treaty(0, 1, 0, 1)", 3);
  }

  private static void treatyToldLast(Edge e) {
    e.says(TERMS, "of several the one told last;");
    Given g = Given.book(LANDS + "treaty a b 10 1 0 0 0 0 0 0;treaty b a 10 2 0 0 0 0 0 0;treaty a b 5 3 0 0 0 0 0 0");
    e.run(g, "treaty(0, 1, 10, 1)", 2, "treaty(1, 0, 10, 1)", 2, "treaty(0, 1, 9, 1)", 3);
  }

  private static void treatyEnds(Edge e) {
    e.says(TERMS, "an 'ends': none.");
    Given g = Given.book(LANDS + "treaty a b 10 1 0 0 0 0 0 0;ends b a 20;treaty a b 30 3 0 0 0 0 0 0");
    e.run(g, "treaty(0, 1, 19, 1)", 1, "treaty(0, 1, 20, 1)", NONE, "treaty(1, 0, 29, 0)", NONE, "treaty(0, 1, 30, 1)", 3);
    e.is(Given.book(LANDS + "ends a b 10;treaty a b 10 1 0 0 0 0 0 0"), "treaty(0, 1, 10, 1)", 1);
    e.is(Given.book(LANDS + "treaty a b 10 1 0 0 0 0 0 0;ends a b 10"), "treaty(0, 1, 10, 1)", NONE);
    e.is(Given.book(LANDS + "treaty a b 11 1 0 0 0 0 0 0;ends a b 10"), "treaty(0, 1, 11, 1)", 1);
    e.is(Given.book(LANDS + "ends a b 0"), "treaty(0, 1, 99, 0)", NONE);
  }

  private static void linkIsThere(Edge e) {
    e.says(TERMS, "A LINK is there in a YEAR if its SINCE is no later.");
    String firms = "land a 0 0 0;firm x a 0;firm y a 0;";
    e.is(Given.book(firms + "owns y x 5 50"), "best(0, 0, 1, 7, 0)", 7);
    e.is(Given.book(firms + "owns y x 5 51"), "best(0, 0, 1, 7, 0)", NONE);
    e.is(Given.book(firms + "owns y x 5 51").and("pass(1)"), "best(0, 0, 1, 7, 0)", 7);
    e.is(Given.book(firms + "lends y x 50"), "hop(1, 0, 1, 1, 0)", 0);
    e.is(Given.book(firms + "lends y x 51"), "hop(1, 0, 1, 1, 0)", NONE);
    e.is(Given.book(firms + "lends y x 0;year 0"), "hop(1, 0, 1, 1, 0)", 0);
    e.is(Given.book(firms + "lends y x 1;year 0"), "hop(1, 0, 1, 1, 0)", NONE);
    e.is(Given.book(firms + "lends y x 99;year 99"), "hop(1, 0, 1, 1, 0)", 0);
  }

  private static void hopOfASort(Edge e) {
    e.says(TERMS, "A HOP from a FIRM X to a FIRM Y, of a SORT (0 dividends: Y owns of X; 1 interest: Y lends to X), in a YEAR, for an OWNER (the FIRM at the end):");
    String firms = "land a 0 0 0;firm x a 0;firm y a 0;";
    e.run(Given.book(firms + "owns y x 5 0"), "hop(0, 0, 1, 1, 0)", 0, "hop(0, 1, 0, 1, 0)", NONE, "hop(1, 0, 1, 1, 0)", NONE, "hop(1, 1, 0, 1, 0)", NONE);
    e.run(Given.book(firms + "lends y x 0"), "hop(1, 0, 1, 1, 0)", 0, "hop(1, 1, 0, 1, 0)", NONE, "hop(0, 0, 1, 1, 0)", NONE, "hop(0, 1, 0, 1, 0)", NONE);
    Given owner = Given.book("land a 500 0 0;land b 0 0 0;land c 0 0 0;firm x a 0;firm y b 0;firm z c 0;owns y x 30 0;owns z y 30 0;treaty a b 0 0 0 0 0 0 0 1");
    e.run(owner, "best(0, 0, 1, 1000, 0)", 1000, "best(0, 0, 2, 1000, 0)", 500, "stop(0, 0, 2, 1000, 0, 2)", 3);
  }

  /** RATE and ARTICLE of dividends and of interest from x to y; behind other LINKS and TREATIES, too. */
  private static void hops(Edge e, String treaties, int owner, int[] dividends, int[] interest) {
    String behind = HOP.replace("owns y x", "owns w o 99 9;owns z w 1 99;lends o z 9;owns y x") + "treaty c b 0 91 92 93 94 5 96 1;ends b c 1;ends a c 0;";
    for (String book : new String[] {HOP, behind}) {
      Given g = Given.book(book + treaties);
      for (int what = 0; what < 2; what++) {
        e.is(g, "hop(0, 0, 1, " + owner + ", " + what + ")", dividends[what]);
        e.is(g, "hop(1, 0, 1, " + owner + ", " + what + ")", interest[what]);
      }
    }
  }

  private static int[] pair(int rate, int article) {
    return new int[] {rate, article};
  }

  private static void articles(Edge e) {
    bothInOneLand(e);
    noTreaty(e);
    staffBelow(e);
    ownerOne(e);
    ownerTwo(e);
    ownerThree(e);
    shareBelow(e);
    yearsBelow(e);
    none(e);
    theFirstThatFails(e);
  }

  private static void bothInOneLand(Edge e) {
    e.says(TERMS, "both in one LAND: RATE 0 (ARTICLE 0);");
    Given g = Given.book("land a 1000 1000 0;firm x a 0;firm y a 0;owns y x 1 50;lends y x 50");
    e.run(g, "hop(0, 0, 1, 1, 0)", 0, "hop(0, 0, 1, 1, 1)", 0, "hop(1, 0, 1, 1, 0)", 0, "hop(1, 0, 1, 1, 1)", 0, "hop(0, 0, 1, 0, 1)", 0);
  }

  private static void noTreaty(Edge e) {
    e.says(TERMS, "no TREATY of theirs: ARTICLE 1;");
    hops(e, "year 50", Y, pair(111, 1), pair(222, 1));
    hops(e, "treaty a b 51 5 6 7 0 0 0 0", Y, pair(111, 1), pair(222, 1));
    hops(e, "treaty a b 50 5 6 7 0 0 0 0", Y, pair(5, 0), pair(7, 0));
    hops(e, "treaty b a 50 5 6 7 0 0 0 0", Y, pair(5, 0), pair(7, 0));
    hops(e, "treaty a b 0 5 6 7 0 0 0 0;ends a b 50", Y, pair(111, 1), pair(222, 1));
    hops(e, "treaty a b 0 5 6 7 0 0 0 0;ends a b 51", Y, pair(5, 0), pair(7, 0));
    hops(e, "treaty a c 0 5 6 7 0 0 0 0;treaty b c 0 5 6 7 0 0 0 0", Y, pair(111, 1), pair(222, 1));
  }

  private static void staffBelow(Edge e) {
    e.says(TERMS, "STAFF of Y below that of the TREATY: 2;");
    hops(e, "treaty a b 0 5 6 7 0 0 0 0", Y, pair(5, 0), pair(7, 0));
    hops(e, "treaty a b 0 5 6 7 0 0 3 0", Y, pair(5, 0), pair(7, 0));
    hops(e, "treaty a b 0 5 6 7 0 0 4 0", Y, pair(111, 2), pair(222, 2));
    hops(e, "treaty a b 0 5 6 7 0 0 99 0", Y, pair(111, 2), pair(222, 2));
    Given g = Given.book(HOP + "treaty a b 0 5 6 7 0 0 99 0");
    e.run(g, "staff(1, 98)", 3, "hop(0, 0, 1, 1, 1)", 2, "staff(1, 99)", 98, "hop(0, 0, 1, 1, 1)", 0, "staff(0, 99)", 0, "staff(1, 98)", 99, "hop(0, 0, 1, 1, 1)", 2);
  }

  private static void ownerOne(Edge e) {
    e.says(TERMS, "its OWNER 1 and the OWNER in another LAND than Y,");
    String one = "treaty a b 0 5 6 7 0 0 0 1;treaty a c 0 0 0 0 0 0 0 0;treaty b c 0 0 0 0 0 0 0 0";
    hops(e, one, Y, pair(5, 0), pair(7, 0));
    hops(e, one, Z, pair(5, 0), pair(7, 0));
    hops(e, one, O, pair(111, 3), pair(222, 3));
    hops(e, one, W, pair(111, 3), pair(222, 3));
    for (int owner = 0; owner <= W; owner++) hops(e, "treaty a b 0 5 6 7 0 0 0 0", owner, pair(5, 0), pair(7, 0));
  }

  private static void ownerTwo(Edge e) {
    e.says(TERMS, "its OWNER 2 and the OWNER in a LAND that is not that of X and has no TREATY with that of X: 3");
    String two = "treaty a b 0 5 6 7 0 0 0 2";
    hops(e, two, Y, pair(5, 0), pair(7, 0));
    hops(e, two, Z, pair(5, 0), pair(7, 0));
    hops(e, two, W, pair(5, 0), pair(7, 0));
    hops(e, two, O, pair(111, 3), pair(222, 3));
    hops(e, two + ";treaty c a 50 0 0 0 0 0 99 1", O, pair(5, 0), pair(7, 0));
    hops(e, two + ";treaty a c 51 0 0 0 0 0 0 0", O, pair(111, 3), pair(222, 3));
    hops(e, two + ";treaty a c 0 0 0 0 0 0 0 0;ends c a 50", O, pair(111, 3), pair(222, 3));
    hops(e, two + ";treaty a c 0 0 0 0 0 0 0 0;ends c a 51", O, pair(5, 0), pair(7, 0));
    hops(e, two + ";treaty b c 0 0 0 0 0 0 0 0", O, pair(111, 3), pair(222, 3));
  }

  private static void ownerThree(Edge e) {
    e.says(TERMS, "(of these three DIVIDEND, INTEREST of X's LAND);");
    hops(e, "year 50", Y, pair(111, 1), pair(222, 1));
    hops(e, "treaty a b 0 5 6 7 0 0 4 0", Y, pair(111, 2), pair(222, 2));
    hops(e, "treaty a b 0 5 6 7 0 0 0 1", O, pair(111, 3), pair(222, 3));
    Given back = Given.book("land a 111 222 0;land b 333 444 0;firm x a 0;firm y b 0;owns x y 20 40;lends x y 40");
    e.run(back, "hop(0, 1, 0, 0, 0)", 333, "hop(1, 1, 0, 0, 0)", 444);
    Given ends = Given.book("land a 0 1000 0;land b 0 0 0;firm x a 0;firm y b 0;owns y x 20 40;lends y x 40");
    e.run(ends, "hop(0, 0, 1, 0, 0)", 0, "hop(0, 0, 1, 0, 1)", 1, "hop(1, 0, 1, 0, 0)", 1000);
  }

  private static void shareBelow(Edge e) {
    e.says(TERMS, "of dividends: SHARE of Y in X below that of the TREATY: 4;");
    hops(e, "treaty a b 0 5 6 7 0 0 0 0", Y, pair(5, 0), pair(7, 0));
    hops(e, "treaty a b 0 5 6 7 20 0 0 0", Y, pair(5, 0), pair(7, 0));
    hops(e, "treaty a b 0 5 6 7 21 0 0 0", Y, pair(6, 4), pair(7, 0));
    hops(e, "treaty a b 0 5 6 7 100 0 0 0", Y, pair(6, 4), pair(7, 0));
    Given g = Given.book(HOP + "treaty a b 0 5 6 7 100 0 0 0");
    e.run(g, "own(1, 0, 99)", 20, "hop(0, 0, 1, 1, 1)", 4, "own(1, 0, 100)", 99, "hop(0, 0, 1, 1, 1)", 0);
  }

  private static void yearsBelow(Edge e) {
    e.says(TERMS, "YEAR less SINCE below its YEARS: 5");
    hops(e, "treaty a b 0 5 6 7 0 0 0 0", Y, pair(5, 0), pair(7, 0));
    hops(e, "treaty a b 0 5 6 7 0 10 0 0", Y, pair(5, 0), pair(7, 0));
    hops(e, "treaty a b 0 5 6 7 0 11 0 0", Y, pair(6, 5), pair(7, 0));
    hops(e, "treaty a b 0 5 6 7 0 20 0 0;year 59", Y, pair(6, 5), pair(7, 0));
    hops(e, "treaty a b 0 5 6 7 0 20 0 0;year 60", Y, pair(5, 0), pair(7, 0));
    hops(e, "treaty a b 0 5 6 7 0 0 0 0;year 40", Y, pair(5, 0), pair(7, 0));
    hops(e, "treaty a b 0 5 6 7 0 1 0 0;year 40", Y, pair(6, 5), pair(7, 0));
    hops(e, "treaty a b 0 5 6 7 0 1 0 0;year 41", Y, pair(5, 0), pair(7, 0));
  }

  private static void none(Edge e) {
    e.says(TERMS, "(of these two HIGH); none: 0: LOW, of interest INTEREST of the TREATY.");
    hops(e, "treaty a b 0 0 1000 999 21 0 0 0", Y, pair(1000, 4), pair(999, 0));
    hops(e, "treaty a b 0 0 1000 999 20 11 0 0", Y, pair(1000, 5), pair(999, 0));
    hops(e, "treaty a b 0 0 1000 999 20 10 3 0", Y, pair(0, 0), pair(999, 0));
    hops(e, "treaty a b 0 1000 0 0 20 10 3 0", Y, pair(1000, 0), pair(0, 0));
  }

  /** All thirty-two couplings of what may fail. */
  private static void theFirstThatFails(Edge e) {
    e.says(TERMS, "RATE by ARTICLE, the first that fails:");
    for (int fails = 0; fails < 32; fails++) {
      boolean treaty = (fails & 1) == 0;
      boolean staff = (fails & 2) == 0;
      boolean owner = (fails & 4) == 0;
      boolean share = (fails & 8) == 0;
      boolean years = (fails & 16) == 0;
      String told = "treaty a b " + (treaty ? 50 : 51) + " 5 6 7 " + (share ? 20 : 21) + " " + (years ? 10 : 11) + " " + (staff ? 3 : 4) + " " + (owner ? 0 : 1);
      int law = !treaty ? 1 : !staff ? 2 : !owner ? 3 : 0;
      int article = law > 0 ? law : !share ? 4 : !years ? 5 : 0;
      hops(e, told, O, pair(law > 0 ? 111 : article > 0 ? 6 : 5, article), pair(law > 0 ? 222 : 7, law));
    }
  }

  private static void landAsked(Edge e) {
    e.says("Promise 6", "Of a LAND: 0 DIVIDEND, 1 INTEREST, 2 TAX, 3 TAKEN.");
    e.run(Fixed.busy(), "land(0, 0)", 100, "land(0, 1)", 50, "land(0, 2)", 200, "land(0, 3)", 100, "land(1, 3)", 18, "land(2, 0)", 150, "land(2, 3)", 0);
  }

  private static void landNone(Edge e) {
    e.says("Promise 6", "NONE: no such ones.");
    e.bounds(Fixed.busy(), "land(#, 0)", 0, 100, 2, 150, NONE);
    e.bounds(Fixed.busy(), "land(0, #)", 0, 100, 3, 100, NONE);
    e.bounds(Given.book("land a 1 0 0;land b 2 0 0;land c 3 0 0;land d 4 0 0;land e 5 0 0;land f 6 0 0;firm x a 0"), "land(#, 0)", 0, 1, 5, 6, NONE);
    e.refused(Given.NEW, "land(0, 0)", NONE);
    e.refused(Given.NEW, "land(0, 3)", NONE);
  }

  private static void firmAsked(Edge e) {
    e.says("Promise 7", "Of a FIRM: 0 its LAND, 1 STAFF, 2 CREDIT, 3 GOT, 4 how many LINKS it has");
    e.run(Fixed.busy(), "firm(2, 0)", 2, "firm(2, 1)", 9, "firm(2, 2)", 0, "firm(2, 3)", 882, "firm(2, 4)", 3, "firm(0, 4)", 5, "firm(1, 4)", 4);
    e.is(Given.book(Fixed.LOANS).and("pay(1, 0, 2, 1000)"), "firm(1, 2)", 100);
    e.is(Given.book("land a 0 0 0;firm x a 0"), "firm(0, 4)", 0);
    for (int firm = 0; firm < 8; firm++) e.is(Fixed.eightInARing(), "firm(" + firm + ", 4)", 4);
  }

  private static void firmLinksEitherWay(Edge e) {
    e.says("Promise 7", "(either way, those of later YEARS, too).");
    Given later = Given.book("land a 0 0 0;firm x a 0;firm y a 0;firm z a 0;year 0;owns y x 1 99;lends x y 1;owns x z 1 0");
    e.run(later, "firm(0, 4)", 3, "firm(1, 4)", 2, "firm(2, 4)", 1);
  }

  private static void firmThrows(Edge e) {
    e.says("Promise 7", "NoSuchElementException: no such ones.");
    e.bounds(Fixed.busy(), "firm(#, 1)", 0, 5, 2, 9, Used.THROWS);
    e.bounds(Fixed.busy(), "firm(0, #)", 0, 0, 4, 5, Used.THROWS);
    e.bounds(Fixed.eightInARing(), "firm(#, 0)", 0, 0, 7, 0, Used.THROWS);
    e.refused(Given.NEW, "firm(0, 0)", Used.THROWS);
  }

  private static void nameAsked(Edge e) {
    e.says("Promise 8", "Byte i of the NAME of a LAND (sort 0), a FIRM (1).");
    for (int i = 0; i < 8; i++) {
      e.is(NAMES, "name(0, 0, " + i + ")", 'a' + i);
      e.is(NAMES, "name(1, 0, " + i + ")", 's' + i);
    }
    e.run(NAMES, "name(0, 1, 0)", (int) 'z', "name(1, 1, 0)", (int) 'q');
  }

  private static void nameNone(Edge e) {
    e.says("Promise 8", "NONE: no such ones.");
    e.bounds(NAMES, "name(#, 1, 0)", 0, 'z', 1, 'q', NONE);
    e.bounds(NAMES, "name(0, #, 0)", 0, 'a', 1, 'z', NONE);
    e.bounds(NAMES, "name(1, #, 0)", 0, 's', 1, 'q', NONE);
    e.bounds(NAMES, "name(0, 0, #)", 0, 'a', 7, 'h', NONE);
    e.bounds(NAMES, "name(1, 1, #)", 0, 'q', 0, 'q', NONE);
    e.bounds(Fixed.eightInARing(), "name(1, #, 0)", 0, 'p', 7, 'w', NONE);
    e.refused(Given.NEW, "name(0, 0, 0)", NONE);
    e.refused(Given.NEW, "name(1, 0, 0)", NONE);
  }

  private static void linkAsked(Edge e) {
    e.says("Promise 9", "Of the k-th LINK: 0 its sort (0 owns, 1 lends), 1, 2 its FIRMS as told, 3 SHARE (0 of lends), 4 SINCE.");
    int[][] links = {{0, 1, 0, 30, 10}, {0, 2, 1, 100, 40}, {0, 2, 0, 10, 20}, {1, 2, 0, 0, 45}, {0, 0, 1, 40, 51}, {1, 1, 0, 0, 51}};
    for (int k = 0; k < 6; k++) for (int what = 0; what < 5; what++) e.is(Fixed.busy(), "link(" + k + ", " + what + ")", links[k][what]);
  }

  private static void linkNone(Edge e) {
    e.says("Promise 9", "NONE: no such ones.");
    e.bounds(Fixed.busy(), "link(#, 3)", 0, 30, 5, 0, NONE);
    e.bounds(Fixed.busy(), "link(0, #)", 0, 0, 4, 10, NONE);
    e.bounds(Fixed.eightInARing(), "link(#, 1)", 0, 1, 15, 0, NONE);
    e.refused(Given.NEW, "link(0, 0)", NONE);
    e.refused(Given.book("land a 0 0 0;firm x a 0"), "link(0, 0)", NONE);
  }

  private static void treatyAsked(Edge e) {
    e.says("Promise 10", "The TREATY of two LANDS in a YEAR (0 .. 199): 0 FROM, 1 LOW, 2 HIGH, 3 INTEREST, 4 SHARE, 5 YEARS, 6 STAFF, 7 OWNER.");
    int[] early = {0, 11, 12, 13, 14, 15, 16, 2};
    int[] late = {99, 1, 2, 3, 4, 5, 6, 1};
    for (int what = 0; what < 8; what++) {
      e.bounds(TREATIES, "treaty(0, 1, #, " + what + ")", 0, early[what], 199, late[what], NONE);
      e.is(TREATIES, "treaty(1, 0, 98, " + what + ")", early[what]);
      e.is(TREATIES, "treaty(1, 0, 99, " + what + ")", late[what]);
    }
  }

  private static void treatyNone(Edge e) {
    e.says("Promise 10", "NONE: none, no such ones.");
    e.refused(TREATIES, "treaty(0, 2, 50, 0)", NONE);
    e.refused(TREATIES, "treaty(0, 0, 50, 0)", NONE);
    e.refused(Given.book("land a 0 0 0;land b 0 0 0;firm x a 0;ends b a 0"), "treaty(0, 1, 50, 0)", NONE);
    e.run(Fixed.busy(), "treaty(0, 2, 50, 4)", 25, "treaty(2, 1, 50, 4)", 0, "treaty(1, 0, 50, 4)", 10);
    for (int wrong : new int[] {-1, 3, Edge.MIN, Edge.MAX}) {
      e.refused(Fixed.busy(), "treaty(" + wrong + ", 0, 50, 4)", NONE);
      e.refused(Fixed.busy(), "treaty(0, " + wrong + ", 50, 4)", NONE);
      e.refused(Fixed.busy(), "treaty(" + wrong + ", " + wrong + ", 50, 4)", NONE);
    }
    e.bounds(TREATIES, "treaty(0, 1, 99, #)", 0, 99, 7, 1, NONE);
    e.refused(Given.NEW, "treaty(0, 1, 0, 0)", NONE);
  }

  private static void hopAsked(Edge e) {
    e.says("Promise 11", "A HOP now, for an OWNER: RATE (0), ARTICLE (1).");
    e.run(Given.book(Fixed.BOOK), "hop(0, 0, 2, 2, 0)", 120, "hop(0, 0, 2, 2, 1)", 4, "hop(0, 0, 1, 2, 0)", 100, "hop(0, 0, 1, 2, 1)", 2,
        "hop(0, 1, 2, 2, 0)", 20, "hop(0, 1, 2, 2, 1)", 0, "hop(0, 1, 2, 0, 0)", 0, "hop(0, 1, 2, 0, 1)", 3, "hop(1, 0, 2, 2, 0)", 30);
    Given soon = Given.book(HOP + "treaty a b 51 5 6 7 0 0 0 0");
    e.run(soon, "hop(0, 0, 1, 1, 0)", 111, "pass(1)", 51, "hop(0, 0, 1, 1, 0)", 5);
  }

  private static void hopNone(Edge e) {
    e.says("Promise 11", "NONE: no such LINK now, no such ones.");
    Given g = Fixed.busy();
    e.refused(g, "hop(1, 0, 2, 3, 0)", NONE);
    e.refused(g, "hop(0, 2, 0, 0, 0)", NONE);
    e.refused(g, "hop(0, 0, 0, 0, 0)", NONE);
    e.refused(g, "hop(1, 1, 2, 2, 1)", NONE);
    Given later = Given.book("land a 0 0 0;firm x a 0;firm y a 0;owns y x 5 51");
    e.refused(later, "hop(0, 0, 1, 1, 0)", NONE);
    e.refused(later, "hop(0, 0, 1, 1, 1)", NONE);
    e.is(later.and("pass(1)"), "hop(0, 0, 1, 1, 0)", 0);
    Given ring = Fixed.eightInARing();
    e.bounds(ring, "hop(#, 7, 0, 1, 0)", 0, 0, 1, 0, NONE);
    e.bounds(ring, "hop(0, 7, 0, #, 0)", 0, 0, 7, 0, NONE);
    e.bounds(ring, "hop(0, 7, 0, 1, #)", 0, 0, 1, 0, NONE);
    for (int wrong : new int[] {-1, 8, Edge.MIN, Edge.MAX}) {
      e.refused(ring, "hop(0, " + wrong + ", 0, 1, 0)", NONE);
      e.refused(ring, "hop(0, 0, " + wrong + ", 1, 0)", NONE);
    }
    e.run(ring, "hop(0, 0, 1, 1, 0)", 0, "hop(0, 7, 0, 1, 0)", 0, "hop(0, 6, 7, 1, 0)", 0);
    e.refused(Given.NEW, "hop(0, 0, 1, 1, 0)", NONE);
  }
}
