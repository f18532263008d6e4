/** Terms, ==== 2., the second part: what is WITHHELD, WAYS, DUE, CREDIT, BEST; ==== 3.: TEXT; promises 12 to 14. */
final class EdgesOfWays {
  private static final String TERMS = "Terms";
  private static final int NONE = Edge.NONE;

  static void all(Edge e) {
    withheldIsCut(e);
    noFirmTwice(e);
    fourStopsAtMost(e);
    dueIsCut(e);
    whatCameWithheldPutToItAgain(e);
    shareOf25(e);
    creditStays(e);
    setsOffDueAtMost(e);
    whatIsLeftIsCredit(e);
    creditOneBillionAtMost(e);
    paysOn(e);
    theEndIsNotTaxed(e);
    mostArrives(e);
    fewerHopsThenTheLowest(e);
    text(e);
    textOfRates(e);
    textOfArticles(e);
    bestAsked(e);
    bestNone(e);
    stopAsked(e);
    stopNone(e);
    spellAsked(e);
    spellNone(e);
  }

  /** x pays y in another LAND, at a RATE of its law. */
  private static Given rate(int rate) {
    return Given.book("land a " + rate + " " + rate + " 0;land b 0 0 0;firm x a 0;firm y b 0;owns y x 1 0;lends y x 0");
  }

  private static void withheldIsCut(Edge e) {
    e.says(TERMS, "WITHHELD: what is paid times RATE by 1,000, cut.");
    int[][] due = {{1, 1, 0}, {1, 999, 0}, {1, 1000, 1}, {1, 1999, 1}, {1, 2000, 2}, {999, 1, 0}, {999, 2, 1}, {999, 1001, 999}, {1000, 1, 1}, {0, 1000000, 0},
        {1000, 1000000, 1000000}, {999, 1000000, 999000}, {1, 1000000, 1000}, {1, 999999, 999}};
    for (int[] d : due) for (int sort = 0; sort < 2; sort++) {
      String call = sort + ", 0, 1, " + d[1];
      e.run(rate(d[0]), "best(" + call + ", 2)", d[2], "best(" + call + ", 0)", d[1] - d[2], "stop(" + call + ", 0, 4)", d[2], "direct(" + call + ")", d[1] - d[2]);
    }
  }

  /** Four FIRMS, each pays each: from one to another 1 + 2 + 2 WAYS. */
  private static Given eachPaysEach(String word, String share) {
    StringBuilder b = new StringBuilder("land a 0 0 0;firm p a 0;firm q a 0;firm r a 0;firm s a 0");
    for (char f = 'p'; f < 't'; f++) for (char g = 'p'; g < 't'; g++) if (f != g) b.append(';').append(word).append(' ').append(f).append(' ').append(g).append(share).append(" 0");
    return Given.book(b.toString());
  }

  private static void noFirmTwice(Edge e) {
    e.says(TERMS, "A WAY from a FIRM to another one: HOPS one behind the other by LINKS of the SORT, no FIRM twice,");
    for (int from = 0; from < 4; from++) for (int to = 0; to < 4; to++) {
      e.run(eachPaysEach("owns", " 30"), "loops(0, " + from + ", " + to + ")", from == to ? NONE : 5, "loops(1, " + from + ", " + to + ")", from == to ? NONE : 0);
      e.is(eachPaysEach("lends", ""), "loops(1, " + from + ", " + to + ")", from == to ? NONE : 5);
    }
    Given mixed = Given.book("land a 0 0 0;firm p a 0;firm q a 0;firm r a 0;owns q p 30 0;lends r q 0");
    e.run(mixed, "best(0, 0, 2, 5, 0)", NONE, "best(1, 0, 2, 5, 0)", NONE, "best(0, 0, 1, 5, 0)", 5, "best(1, 1, 2, 5, 0)", 5);
  }

  private static void fourStopsAtMost(Edge e) {
    e.says(TERMS, "4 STOPS between at most.");
    for (int sort = 0; sort < 2; sort++) {
      for (int to = 1; to < 6; to++) e.run(Fixed.eightInARing(), "best(" + sort + ", 0, " + to + ", 9, 1)", to, "loops(" + sort + ", 0, " + to + ")", 1);
      for (int to = 6; to < 8; to++) e.run(Fixed.eightInARing(), "best(" + sort + ", 0, " + to + ", 9, 1)", NONE, "loops(" + sort + ", 0, " + to + ")", 0);
      e.run(Fixed.eightInARing(), "best(" + sort + ", 6, 3, 9, 1)", 5, "best(" + sort + ", 6, 4, 9, 1)", NONE);
    }
  }

  /** Interest p, q, r: p's LAND keeps so much back, q's one taxes so much. */
  private static Given taxed(int rate, int tax) {
    return Given.book("land a 0 " + rate + " 0;land b 0 0 " + tax + ";firm p a 0;firm q b 0;firm r b 0;lends q p 0;lends r q 0");
  }

  private static void dueIsCut(Edge e) {
    e.says(TERMS, "by 1,000, cut; but 0");
    int[][] due = {{1, 999, 0}, {1, 1000, 1}, {1, 1999, 1}, {999, 1, 0}, {999, 2, 1}, {1000, 1, 1}, {1000, 1000000, 1000000}, {0, 1000000, 0}, {999, 1000000, 999000}};
    for (int[] d : due) e.run(taxed(0, d[0]), "best(1, 0, 2, " + d[1] + ", 3)", d[2], "best(1, 0, 2, " + d[1] + ", 0)", d[1] - d[2], "take(1, 0, 2, " + d[1] + ", 1)", d[2]);
  }

  private static void whatCameWithheldPutToItAgain(Edge e) {
    e.says(TERMS, "What is paid goes on: at a STOP its DUE is what came (WITHHELD put to it again) times TAX of its LAND");
    e.run(taxed(100, 200), "best(1, 0, 2, 1000, 3)", 100, "best(1, 0, 2, 1000, 2)", 100, "best(1, 0, 2, 1000, 0)", 800);
    e.run(taxed(999, 1000), "best(1, 0, 2, 1000, 3)", 1, "best(1, 0, 2, 1000, 0)", 0);
    e.run(taxed(1000, 1000), "best(1, 0, 2, 1000, 3)", 0, "best(1, 0, 2, 1000, 1)", 2, "best(1, 0, 2, 1000, 0)", 0);
  }

  /** Dividends and interest p, q, r: 100 and 300 by 1000 kept back, q's LAND taxes 200; q has so much of p. */
  private static Given owned(int share) {
    return Given.book("land a 100 300 0;land b 0 0 200;firm p a 0;firm q b 0;firm r b 0;owns q p " + share + " 0;owns r q 1 0;lends q p 0;lends r q 0");
  }

  /** The same, behind other LINKS. */
  private static Given ownedLater(int share) {
    return Given.book("land a 100 300 0;land b 0 0 200;firm p a 0;firm q b 0;firm r b 0;firm s b 0;owns s r " + (share < 25 ? 99 : 1) + " 0;lends s r 0;owns r q 1 0;owns q p " + share + " 0;lends q p 0;lends r q 0");
  }

  private static void shareOf25(Edge e) {
    e.says(TERMS, "of dividends with a SHARE of 25 or more in the one it came from:");
    e.run(ownedLater(24), "best(0, 0, 2, 1000, 3)", 100, "best(0, 0, 2, 1000, 0)", 800, "best(1, 0, 2, 1000, 3)", 0);
    e.run(ownedLater(25), "best(0, 0, 2, 1000, 3)", 0, "best(0, 0, 2, 1000, 0)", 900, "pay(1, 0, 2, 1000)", 700, "firm(1, 2)", 100);
    e.run(owned(24), "best(0, 0, 2, 1000, 3)", 100, "best(0, 0, 2, 1000, 0)", 800);
    e.run(owned(25), "best(0, 0, 2, 1000, 3)", 0, "best(0, 0, 2, 1000, 0)", 900);
    e.run(owned(26), "best(0, 0, 2, 1000, 3)", 0);
    e.run(owned(1), "best(0, 0, 2, 1000, 3)", 100);
    e.run(owned(100), "best(0, 0, 2, 1000, 3)", 0, "pass(10)", 60, "best(1, 0, 2, 1000, 2)", 300);
    e.run(owned(25), "own(1, 0, 24)", 25, "best(0, 0, 2, 1000, 3)", 100, "own(1, 0, 25)", 24, "best(0, 0, 2, 1000, 3)", 0);
    Given loan = Given.book("land a 0 0 0;land b 0 0 200;firm p a 0;firm q b 0;firm r b 0;owns q p 100 0;lends q p 0;lends r q 0");
    e.run(loan, "best(1, 0, 2, 1000, 3)", 200);
  }

  private static void creditStays(Edge e) {
    e.says(TERMS, "then CREDIT stays as it is;");
    e.run(owned(25), "pay(1, 0, 2, 1000)", 700, "firm(1, 2)", 100, "pay(0, 0, 2, 1000)", 900, "firm(1, 2)", 100);
    e.run(owned(24), "pay(1, 0, 2, 1000)", 700, "firm(1, 2)", 100, "pay(0, 0, 2, 1000)", 900, "firm(1, 2)", 0);
    e.run(owned(25), "pay(0, 0, 2, 1000)", 900, "firm(1, 2)", 0);
  }

  private static void setsOffDueAtMost(Edge e) {
    e.says(TERMS, "else it sets off WITHHELD and CREDIT, DUE at most;");
    e.run(taxed(199, 200), "best(1, 0, 2, 1000, 3)", 1, "pay(1, 0, 2, 1000)", 800, "firm(1, 2)", 0, "land(1, 3)", 1);
    e.run(taxed(200, 200), "best(1, 0, 2, 1000, 3)", 0, "pay(1, 0, 2, 1000)", 800, "firm(1, 2)", 0, "land(1, 3)", 0);
    e.run(taxed(201, 200), "best(1, 0, 2, 1000, 3)", 0, "pay(1, 0, 2, 1000)", 799, "firm(1, 2)", 1, "land(1, 3)", 0);
    e.run(withCredit(), "best(1, 3, 2, 495, 3)", 0, "pay(1, 3, 2, 495)", 495, "firm(1, 2)", 1);
    e.run(withCredit(), "best(1, 3, 2, 500, 3)", 0, "pay(1, 3, 2, 500)", 500, "firm(1, 2)", 0);
    e.run(withCredit(), "best(1, 3, 2, 505, 3)", 1, "pay(1, 3, 2, 505)", 504, "firm(1, 2)", 0);
  }

  /** q in b, which taxes 200, has CREDIT 100; s in its LAND pays it, too, and nothing is kept back. */
  private static Given withCredit() {
    return Given.book("land a 0 300 0;land b 0 0 200;firm p a 0;firm q b 0;firm r b 0;firm s b 0;lends q p 0;lends r q 0;lends q s 0").and("pay(1, 0, 2, 1000)");
  }

  private static void whatIsLeftIsCredit(Edge e) {
    e.says(TERMS, "what is left of both is its CREDIT then");
    e.run(taxed(300, 200), "pay(1, 0, 2, 1000)", 700, "firm(1, 2)", 100, "pay(1, 0, 2, 1000)", 700, "firm(1, 2)", 200, "pay(1, 0, 2, 1)", 1, "firm(1, 2)", 200);
    e.run(taxed(300, 0), "pay(1, 0, 2, 1000)", 700, "firm(1, 2)", 300);
    e.run(taxed(300, 301), "pay(1, 0, 2, 1000)", 699, "firm(1, 2)", 0);
  }

  /**
   * 512 calls bring no more than 512 million, so the bound is out of their reach; the class counts no calls, and must
   * keep to it behind them, too.
   */
  private static void creditOneBillionAtMost(Edge e) {
    e.says(TERMS, "(1,000,000,000 at most).");
    TreatyRouter x = Check.of("land a 0 1000 0;land b 0 0 0;firm p a 0;firm q b 0;firm r b 0;lends q p 0;lends r q 0");
    for (int i = 0; i < 511; i++) x.pay(1, 0, 2, 1000000);
    e.due("CREDIT behind 511", x.firm(1, 2), 511000000);
    for (int i = 511; i < 999; i++) x.pay(1, 0, 2, 1000000);
    x.pay(1, 0, 2, 999999);
    e.due("CREDIT, one below the most", x.firm(1, 2), 999999999);
    x.pay(1, 0, 2, 1);
    e.due("CREDIT, the most", x.firm(1, 2), 1000000000);
    x.pay(1, 0, 2, 1);
    e.due("CREDIT, one more", x.firm(1, 2), 1000000000);
    x.pay(1, 0, 2, 1000000);
    e.due("CREDIT, a million more", x.firm(1, 2), 1000000000);
  }

  private static void paysOn(Edge e) {
    e.says(TERMS, "It pays on what came, less WITHHELD, less DUE that was not set off.");
    Given five = Given.book("land a 0 0 100;land b 0 0 10;firm p a 0;firm q a 0;firm r b 0;firm s a 0;firm t b 0;firm u a 0;lends q p 0;lends r q 0;lends s r 0;lends t s 0;lends u t 0");
    e.run(five, "stop(1, 0, 5, 1000, 0, 3)", 1000, "stop(1, 0, 5, 1000, 1, 3)", 900, "stop(1, 0, 5, 1000, 2, 3)", 891, "stop(1, 0, 5, 1000, 3, 3)", 802, "stop(1, 0, 5, 1000, 4, 3)", 794,
        "best(1, 0, 5, 1000, 0)", 794, "best(1, 0, 5, 1000, 3)", 206, "take(1, 0, 5, 1000, 0)", 189, "take(1, 0, 5, 1000, 1)", 17, "pay(1, 0, 5, 1000)", 794, "land(0, 3)", 189, "land(1, 3)", 17);
    e.run(taxed(100, 200), "stop(1, 0, 2, 1000, 0, 3)", 1000, "stop(1, 0, 2, 1000, 0, 4)", 100, "stop(1, 0, 2, 1000, 1, 3)", 800);
    e.run(taxed(300, 200), "stop(1, 0, 2, 1000, 1, 3)", 700);
    e.run(taxed(0, 1000), "stop(1, 0, 2, 1000, 1, 3)", 0, "best(1, 0, 2, 1000, 0)", 0, "best(1, 0, 2, 1000, 1)", 2);
    e.run(taxed(1000, 0), "stop(1, 0, 2, 1000, 1, 3)", 0, "best(1, 0, 2, 1000, 0)", 0);
  }

  private static void theEndIsNotTaxed(Edge e) {
    e.says(TERMS, "What ARRIVES at the end is not taxed.");
    Given longer = Given.book("land a 0 100 0;land b 0 0 500;land c 0 0 0;firm p a 0;firm q b 0;firm r c 0;firm s c 0;lends q p 0;lends r q 0;lends s r 0;lends s p 0;lends r p 0");
    e.run(longer, "best(1, 0, 3, 1000, 1)", 1, "best(1, 0, 3, 1000, 3)", 0, "take(1, 0, 3, 1000, 0)", 100, "take(1, 0, 3, 1000, 1)", 0, "take(1, 0, 3, 1000, 2)", 0,
        "pay(1, 0, 3, 1000)", 900, "firm(3, 2)", 0, "all(1)", 0, "pay(1, 0, 2, 1000)", 900, "firm(2, 2)", 0, "pay(1, 0, 1, 1000)", 900, "firm(1, 2)", 0, "land(1, 3)", 0);
    Given tried = Given.book("land a 0 100 0;land b 0 0 500;land c 0 0 300;firm p a 0;firm q b 0;firm r c 0;firm s c 0;lends q p 0;lends r q 0;lends s r 0;lends s p 0");
    e.run(tried, "best(1, 0, 3, 1000, 1)", 1, "best(1, 0, 3, 1000, 3)", 0, "take(1, 0, 3, 1000, 2)", 0, "without(1, 0, 3, 1000, 1)", 900);
    e.run(taxed(300, 200), "pay(1, 0, 2, 1000)", 700, "firm(1, 2)", 100, "pay(1, 0, 1, 1000)", 700, "firm(1, 2)", 100, "firm(1, 3)", 700);
    Given g = Given.book("land a 0 100 1000;land b 0 0 1000;firm p a 0;firm q b 0;lends q p 0");
    e.run(g, "best(1, 0, 1, 1000, 0)", 900, "best(1, 0, 1, 1000, 3)", 0, "pay(1, 0, 1, 1000)", 900, "firm(1, 2)", 0, "firm(1, 3)", 900, "land(1, 3)", 0, "land(0, 3)", 100);
  }

  private static void mostArrives(Edge e) {
    e.says(TERMS, "BEST: the WAY by which most ARRIVES");
    String two = "land a 0 100 0;land b 0 0 0;firm p a 0;firm q a 0;firm r b 0;firm s b 0;lends s p 0;lends r p 0;lends s r 0;lends q p 0;lends s q 0;treaty a b 0 0 0 100 0 0 0 0;land c 0 0 ";
    e.run(Given.book(two + "0"), "best(1, 0, 3, 1000, 0)", 900, "best(1, 0, 3, 1000, 1)", 1);
    String tax = "land a 0 0 0;land b 0 0 %d;land c 0 0 %d;firm p a 0;firm q b 0;firm r c 0;firm s a 0;lends q p 0;lends s q 0;lends r p 0;lends s r 0";
    e.run(Given.book(String.format(tax, 201, 200)), "best(1, 0, 3, 1000, 0)", 800, "stop(1, 0, 3, 1000, 0, 0)", 2);
    e.run(Given.book(String.format(tax, 200, 201)), "best(1, 0, 3, 1000, 0)", 800, "stop(1, 0, 3, 1000, 0, 0)", 1);
    e.run(Given.book(String.format(tax, 201, 200)), "best(1, 0, 3, 4, 0)", 4, "stop(1, 0, 3, 4, 0, 0)", 1);
    e.run(Given.book("land a 0 1000 0;land b 0 0 0;firm p a 0;firm q b 0;lends q p 0"), "best(1, 0, 1, 1000000, 0)", 0, "best(1, 0, 1, 1000000, 1)", 1);
  }

  private static void fewerHopsThenTheLowest(Edge e) {
    e.says(TERMS, "(of several that of fewer HOPS, then FIRM by FIRM the lowest).");
    String firms = "land a 0 0 0;firm p a 0;firm q a 0;firm r a 0;firm s a 0;firm t a 0;firm u a 0;";
    Given fewer = Given.book(firms + "lends q p 0;lends r q 0;lends s r 0;lends s p 0");
    e.run(fewer, "best(1, 0, 3, 9, 1)", 1, "stop(1, 0, 3, 9, 0, 0)", 3);
    Given lowest = Given.book(firms + "lends u t 0;lends t p 0;lends u s 0;lends s p 0;lends u r 0;lends r p 0");
    e.run(lowest, "best(1, 0, 5, 9, 1)", 2, "stop(1, 0, 5, 9, 0, 0)", 2);
    Given second = Given.book(firms + "lends u t 0;lends u s 0;lends t q 0;lends s q 0;lends s r 0;lends r p 0;lends q p 0");
    e.run(second, "best(1, 0, 5, 9, 1)", 3, "stop(1, 0, 5, 9, 0, 0)", 1, "stop(1, 0, 5, 9, 1, 0)", 3);
    Given first = Given.book(firms + "lends u t 0;lends t q 0;lends u q 0;lends u r 0;lends r p 0;lends q p 0;lends s p 0;lends u s 0");
    e.run(first, "best(1, 0, 5, 9, 1)", 2, "stop(1, 0, 5, 9, 0, 0)", 1, "stop(1, 0, 5, 9, 1, 0)", 5);
    Given longLow = Given.book(firms + "lends q p 0;lends r q 0;lends u r 0;lends t p 0;lends u t 0");
    e.run(longLow, "best(1, 0, 5, 9, 1)", 2, "stop(1, 0, 5, 9, 0, 0)", 4);
  }

  private static void text(Edge e) {
    e.says(TERMS, "(Apart, from as it is now; AMOUNT 1 .. 1,000,000.) TEXT of the BEST WAY: NAME of the first FIRM; of each HOP ' >',");
    e.spelled(Given.book(Fixed.BOOK), "0, 0, 2, 1000", "x >10%!2 y >2% z");
    e.spelled(Given.book(Fixed.BOOK), "0, 0, 2, 1", "x >12%!4 z");
    e.spelled(Given.book(Fixed.BOOK), "0, 0, 2, 1000000", "x >10%!2 y >2% z");
    e.spelled(Fixed.eightInARing(), "1, 0, 5, 1", "p >0% q >0% r >0% s >0% t >0% u");
    e.spelled(Given.book(Fixed.BOOK), "0, 1, 2, 1000", "y >2% z");
    e.spelled(Fixed.eightInARing(), "0, 7, 1, 1", "w >0% p >0% q");
    e.refused(Given.book(Fixed.BOOK), "spell(0, 0, 2, 0, -1)", NONE);
    e.refused(Given.book(Fixed.BOOK), "spell(0, 0, 2, 1000001, -1)", NONE);
  }

  private static void textOfRates(Edge e) {
    e.says(TERMS, "RATE by 10 as a whole number, if there is a rest a . and that, '%' (' >5%', ' >12.5%'),");
    int[] rates = {0, 1, 9, 10, 11, 50, 99, 100, 101, 125, 999, 1000};
    String[] told = {"0", "0.1", "0.9", "1", "1.1", "5", "9.9", "10", "10.1", "12.5", "99.9", "100"};
    for (int i = 0; i < rates.length; i++) {
      e.spelled(rate(rates[i]), "0, 0, 1, 7", "x >" + told[i] + "%!1 y");
      e.spelled(rate(rates[i]), "1, 0, 1, 7", "x >" + told[i] + "%!1 y");
    }
    Given longest = Given.book("land a 0 999 0;land b 0 999 0;firm aaaaaaaa a 0;firm bbbbbbbb b 0;firm cccccccc a 0;firm dddddddd b 0;firm eeeeeeee a 0;firm ffffffff b 0;"
        + "lends bbbbbbbb aaaaaaaa 0;lends cccccccc bbbbbbbb 0;lends dddddddd cccccccc 0;lends eeeeeeee dddddddd 0;lends ffffffff eeeeeeee 0");
    e.spelled(longest, "1, 0, 5, 1000000", "aaaaaaaa >99.9%!1 bbbbbbbb >99.9%!1 cccccccc >99.9%!1 dddddddd >99.9%!1 eeeeeeee >99.9%!1 ffffffff");
  }

  private static void textOfArticles(Edge e) {
    e.says(TERMS, "if its ARTICLE is not 0 '!' and it, a blank, NAME of the FIRM.");
    String book = "land a 111 0 0;land b 0 0 0;land c 0 0 0;firm x a 0;firm y b 3;firm o c 0;owns y x 20 40;owns o y 30 0;treaty a b ";
    String[] told = {"0 50 60 0 0 0 0 0", "51 50 60 0 0 0 0 0", "0 50 60 0 0 0 4 0", "0 50 60 0 0 0 0 1", "0 50 60 0 21 0 0 0", "0 50 60 0 0 11 0 0"};
    String[] hop = {">5%", ">11.1%!1", ">11.1%!2", ">11.1%!3", ">6%!4", ">6%!5"};
    for (int article = 0; article < 6; article++) e.spelled(Given.book(book + told[article]), "0, 0, 2, 1000", "x " + hop[article] + " y >0%!1 o");
  }

  private static void bestAsked(Edge e) {
    e.says("Promise 12", "BEST: what ARRIVES (0), HOPS (1), WITHHELD of all (2), DUE paid of all STOPS (3).");
    e.run(Given.book(Fixed.BOOK), "best(0, 0, 2, 1000, 0)", 882, "best(0, 0, 2, 1000, 1)", 2, "best(0, 0, 2, 1000, 2)", 118, "best(0, 0, 2, 1000, 3)", 0);
    Given two = Given.book("land a 0 10 20;land b 0 30 40;firm p a 0;firm q b 0;firm r a 0;firm s b 0;lends q p 0;lends r q 0;lends s r 0");
    e.run(two, "best(1, 0, 3, 1000, 0)", 923, "best(1, 0, 3, 1000, 1)", 3, "best(1, 0, 3, 1000, 2)", 47, "best(1, 0, 3, 1000, 3)", 30);
  }

  private static void bestNone(Edge e) {
    e.says("Promise 12", "NONE: no WAY, no such ones, both are one, out of bounds.");
    AsBest.refusals(e, "best(%d, %d, %d, %d, 0)");
    e.bounds(Fixed.busy(), "best(0, 0, 2, 1000, #)", 0, 882, 3, 0, NONE);
    e.bounds(Fixed.busy(), "best(0, 0, 2, #, 0)", 1, 1, 1000000, 882000, NONE);
    e.refused(Given.NEW, "best(0, 0, 1, 1, 0)", NONE);
  }

  private static void stopAsked(Edge e) {
    e.says("Promise 13", "Of the BEST WAY's i-th HOP: to which FIRM (0), RATE (1), ARTICLE (2), what is paid by it (3), WITHHELD (4).");
    int[][] due = {{1, 100, 2, 1000, 100}, {2, 20, 0, 900, 18}};
    for (int i = 0; i < 2; i++) for (int what = 0; what < 5; what++) e.is(Given.book(Fixed.BOOK), "stop(0, 0, 2, 1000, " + i + ", " + what + ")", due[i][what]);
  }

  private static void stopNone(Edge e) {
    e.says("Promise 13", "NONE: no such one, no WAY, as best().");
    AsBest.refusals(e, "stop(%d, %d, %d, %d, 0, 0)");
    e.bounds(Fixed.busy(), "stop(0, 0, 2, 1000, #, 0)", 0, 1, 1, 2, NONE);
    e.bounds(Fixed.busy(), "stop(0, 0, 2, 1000, 1, #)", 0, 2, 4, 18, NONE);
    e.bounds(Fixed.eightInARing(), "stop(1, 0, 5, 1000, #, 0)", 0, 1, 4, 5, NONE);
    e.bounds(Fixed.eightInARing(), "stop(1, 0, 1, 1000, #, 0)", 0, 1, 0, 1, NONE);
    e.refused(Given.NEW, "stop(0, 0, 1, 1, 0, 0)", NONE);
  }

  private static void spellAsked(Edge e) {
    e.says("Promise 14", "Byte i of TEXT (i NONE: how many).");
    e.run(Given.book(Fixed.BOOK), "spell(0, 0, 2, 1000, -1)", 16, "spell(0, 0, 2, 1000, -1)", 16, "spell(0, 0, 2, 1000, 16)", NONE, "spell(1, 0, 2, 1000, -1)", 7, "spell(1, 0, 2, 1000, 7)", NONE, "spell(1, 0, 2, 1000, 4)", (int) '%');
    e.run(Given.book(Fixed.BOOK), "spell(0, 0, 2, 1000, -1)", 16, "spell(0, 0, 2, 1000, 0)", (int) 'x', "spell(0, 0, 2, 1000, 1)", (int) ' ', "spell(0, 0, 2, 1000, 2)", (int) '>', "spell(0, 0, 2, 1000, 15)", (int) 'z');
  }

  private static void spellNone(Edge e) {
    e.says("Promise 14", "NONE: no such one, no WAY, as best().");
    AsBest.refusals(e, "spell(%d, %d, %d, %d, -1)");
    AsBest.refusals(e, "spell(%d, %d, %d, %d, 0)");
    e.bounds(Given.book(Fixed.BOOK), "spell(0, 0, 2, 1000, #)", -1, 16, 15, 'z', NONE);
    e.bounds(Fixed.busy(), "spell(1, 0, 2, 1000, #)", -1, 7, 6, 'z', NONE);
    e.refused(Given.NEW, "spell(0, 0, 1, 1, -1)", NONE);
  }
}
