/** Terms, ==== 2., the third part: ACTS, STATUS; promises 15 to 19 and 21. */
final class EdgesOfActs {
  private static final String TERMS = "Terms";
  private static final int NONE = Edge.NONE;
  private static final int MIN = Edge.MIN;
  private static final int MAX = Edge.MAX;
  /** 16 LINKS among the eight FIRMS of the ring. */
  private static final Given FULL = Fixed.eightInARing();
  private static final Given YEAR_198 = Given.book(Fixed.BOOK + ";year 99").times(4, "pass(20)").and("pass(19)");

  static void all(Edge e) {
    amountIsPaid(e);
    takenAndGot(e);
    yearsPass(e);
    staffIsSet(e);
    shareIsSet(e);
    shareIsGone(e);
    sixteenLinksAtMost(e);
    loanIsMadeOrGone(e);
    payAsked(e);
    payNone(e);
    passAsked(e);
    passNone(e);
    staffAsked(e);
    staffNone(e);
    ownAsked(e);
    ownNone(e);
    lendAsked(e);
    lendNone(e);
    statusCounts(e);
    statusOfSeveralTheFirst(e);
    statusNotUndone(e);
    statusAsked(e);
    statusNone(e);
  }

  private static void amountIsPaid(Edge e) {
    e.says(TERMS, "By hand: an AMOUNT (1 .. 1,000,000) is PAID by the BEST WAY: CREDITS change;");
    Given g = Given.book(Fixed.LOANS);
    e.run(g, "pay(1, 0, 2, 1)", 1, "firm(1, 2)", 0, "firm(2, 3)", 1);
    e.run(g, "pay(1, 0, 2, 1000000)", 700000, "firm(1, 2)", 100000, "firm(0, 2)", 0, "firm(2, 2)", 0, "firm(2, 3)", 700000);
    for (int wrong : new int[] {0, -1, 1000001, MIN, MAX}) e.refused(g, "pay(1, 0, 2, " + wrong + ")", NONE, 1);
    Given best = Given.book(Fixed.BOOK);
    e.run(best, "pay(0, 0, 2, 1000)", 882, "land(1, 3)", 18, "pay(0, 0, 2, 1)", 1, "land(1, 3)", 18);
  }

  private static void takenAndGot(Edge e) {
    e.says(TERMS, "TAKEN of each LAND is more by what its FIRMS WITHHELD and its STOPS paid of DUE; GOT of the last one by what ARRIVES.");
    Given g = Given.book("land a 0 10 20;land b 0 30 40;firm p a 0;firm q b 0;firm r a 0;firm s b 0;lends q p 0;lends r q 0;lends s r 0");
    e.run(g, "pay(1, 0, 3, 1000)", 923, "land(0, 3)", 10 + 9, "land(1, 3)", 30 + 28, "firm(3, 3)", 923, "firm(0, 3)", 0, "firm(1, 3)", 0, "firm(2, 3)", 0, "firm(2, 2)", 9,
        "all(2)", 77, "all(3)", 923, "pay(1, 2, 3, 100)", 99, "firm(3, 3)", 1022, "land(0, 3)", 20);
    e.run(g, "pay(1, 0, 1, 1000)", 990, "firm(1, 3)", 990, "firm(1, 2)", 0, "land(0, 3)", 10, "land(1, 3)", 0);
    e.run(g, "pay(1, 0, 3, 1)", 1, "all(2)", 0, "all(3)", 1);
    e.run(g, "pay(1, 1, 2, 1000)", 970, "land(0, 3)", 0, "land(1, 3)", 30, "firm(2, 3)", 970, "take(1, 1, 2, 1000, 0)", 0, "take(1, 1, 2, 1000, 1)", 30);
    e.run(Given.book("land a 0 1000 0;land b 0 0 0;firm p a 0;firm q b 0;lends q p 0"), "pay(1, 0, 1, 1000000)", 0, "land(0, 3)", 1000000, "firm(1, 3)", 0, "count(3)", 1);
  }

  private static void yearsPass(Edge e) {
    e.says(TERMS, "YEARS pass (1 .. 20; YEAR is 199 at most).");
    Given g = Given.book(Fixed.BOOK);
    e.run(g, "pass(1)", 51, "pass(20)", 71, "all(0)", 71);
    for (int wrong : new int[] {0, -1, 21, MIN, MAX}) e.refused(g, "pass(" + wrong + ")", NONE, 1);
    e.run(YEAR_198, "pass(1)", 199, "all(0)", 199);
    e.refused(YEAR_198, "pass(2)", NONE, 3);
    e.refused(YEAR_198, "pass(20)", NONE, 3);
    e.refused(YEAR_198.and("pass(1)"), "pass(1)", NONE, 3);
    e.run(Given.book(Fixed.BOOK + ";year 0"), "pass(20)", 20);
    e.run(Given.book(Fixed.BOOK + ";year 99").times(4, "pass(20)"), "pass(20)", 199);
  }

  private static void staffIsSet(Edge e) {
    e.says(TERMS, "STAFF is set (0 .. 99).");
    Given g = Given.book(Fixed.BOOK);
    e.run(g, "staff(1, 0)", 3, "firm(1, 1)", 0, "staff(1, 99)", 0, "firm(1, 1)", 99, "firm(0, 1)", 5, "firm(2, 1)", 9);
    for (int wrong : new int[] {-1, 100, MIN, MAX}) e.refused(g, "staff(1, " + wrong + ")", NONE, 1);
  }

  private static void shareIsSet(Edge e) {
    e.says(TERMS, "A SHARE is set (1 .. 100: if it was none, SINCE is YEAR;");
    Given g = Given.book(Fixed.BOOK).and("pass(7)");
    e.run(g, "own(1, 0, 1)", 30, "link(0, 3)", 1, "link(0, 4)", 10, "own(1, 0, 100)", 1, "link(0, 3)", 100, "link(0, 4)", 10, "count(6)", 4);
    e.run(g, "own(0, 2, 1)", 0, "count(6)", 5, "link(4, 0)", 0, "link(4, 1)", 0, "link(4, 2)", 2, "link(4, 3)", 1, "link(4, 4)", 57);
    e.run(g, "own(0, 2, 100)", 0, "link(4, 3)", 100);
    e.run(g, "own(1, 0, 0)", 30, "own(1, 0, 30)", 0, "link(3, 3)", 30, "link(3, 4)", 57, "hop(0, 0, 1, 1, 0)", 100);
    for (int wrong : new int[] {-1, 101, MIN, MAX}) e.refused(g, "own(1, 0, " + wrong + ")", NONE, 1);
    Given late = YEAR_198.and("pass(1)");
    e.run(late, "own(0, 2, 5)", 0, "link(4, 4)", 199, "best(0, 2, 0, 5, 1)", 1);
    Given later = Given.book("land a 0 0 0;firm x a 0;firm y a 0;owns y x 5 99");
    e.run(later, "own(1, 0, 6)", 5, "link(0, 3)", 6, "link(0, 4)", 99, "best(0, 0, 1, 5, 0)", NONE);
  }

  private static void shareIsGone(Edge e) {
    e.says(TERMS, "0: it is gone;");
    Given g = Given.book(Fixed.BOOK);
    e.run(g, "own(1, 0, 0)", 30, "count(6)", 3, "hop(0, 0, 1, 1, 0)", NONE, "link(0, 3)", 100, "link(1, 3)", 10, "link(2, 0)", 1, "link(3, 0)", NONE);
    e.run(g, "own(2, 0, 0)", 10, "count(6)", 3, "link(0, 3)", 30, "link(1, 3)", 100, "link(2, 4)", 45);
    e.run(FULL, "own(0, 7, 0)", 50, "count(6)", 15, "link(14, 1)", 7, "link(15, 0)", NONE);
    e.run(FULL, "own(1, 0, 0)", 50, "count(6)", 15, "link(7, 0)", 1, "link(8, 1)", 2, "link(14, 1)", 0);
  }

  private static void sixteenLinksAtMost(Edge e) {
    e.says(TERMS, "16 LINKS at most).");
    e.run(FULL, "count(6)", 16, "own(1, 0, 51)", 50, "own(1, 0, 0)", 51, "count(6)", 15, "own(0, 4, 5)", 0, "count(6)", 16, "link(15, 3)", 5);
    e.refused(FULL, "own(0, 4, 5)", NONE, 3);
    e.refused(FULL, "lend(0, 4)", NONE, 3);
    e.run(FULL, "lend(1, 0)", 0, "lend(0, 4)", 1, "count(6)", 16, "link(15, 0)", 1);
    e.is(FULL.and("lend(1, 0)"), "own(0, 4, 5)", 0);
  }

  private static void loanIsMadeOrGone(Edge e) {
    e.says(TERMS, "A loan is made (SINCE is YEAR), or is gone, if there is one (the others stay in order).");
    Given g = Given.book(Fixed.BOOK).and("pass(7)");
    e.run(g, "lend(0, 2)", 1, "link(4, 0)", 1, "link(4, 1)", 0, "link(4, 2)", 2, "link(4, 3)", 0, "link(4, 4)", 57, "lend(0, 2)", 0, "count(6)", 4, "link(3, 4)", 45);
    e.run(g, "lend(2, 0)", 0, "count(6)", 3, "lend(2, 0)", 1, "link(3, 4)", 57);
    for (int gone = 0; gone < 8; gone++) {
      Used u = FULL.make();
      e.due("gone " + gone, u.call("lend(" + (gone + 1) % 8 + ", " + gone + ")"), 0);
      for (int k = 0; k < 15; k++) {
        int was = k < gone ? k : k + 1;
        e.due("gone " + gone + ", sort " + k, u.call("link(" + k + ", 0)"), was < 8 ? 1 : 0);
        e.due("gone " + gone + ", to " + k, u.call("link(" + k + ", 2)"), was % 8);
      }
    }
    Given later = Given.book("land a 0 0 0;firm x a 0;firm y a 0;lends y x 99");
    e.run(later, "lend(1, 0)", 0, "count(6)", 0, "lend(1, 0)", 1, "link(0, 4)", 50, "best(1, 0, 1, 5, 0)", 5);
  }

  private static void payAsked(Edge e) {
    e.says("Promise 15", "PAID: what ARRIVES.");
    AsBest.taken(e, "pay(%d, %d, %d, %d)", 1, 1000000, 1000, 1000, 1000);
    e.run(Given.book(Fixed.BOOK), "pay(0, 0, 2, 1000)", 882, "pay(1, 0, 2, 1000)", 970, "pay(0, 1, 2, 1000)", 980);
  }

  private static void payNone(Edge e) {
    e.says("Promise 15", "NONE: no such FIRMS (STATUS 0), SORT not 0, 1, AMOUNT out of bounds (1), both are one, no WAY (2).");
    Given ring = Fixed.eightInARing();
    for (int wrong : new int[] {-1, 8, MIN, MAX}) {
      e.refused(ring, "pay(0, " + wrong + ", 0, 5)", NONE, 0);
      e.refused(ring, "pay(0, 0, " + wrong + ", 5)", NONE, 0);
      e.refused(ring, "pay(0, " + wrong + ", " + wrong + ", 5)", NONE, 0);
    }
    for (int wrong : new int[] {-1, 2, MIN, MAX}) e.refused(ring, "pay(" + wrong + ", 0, 1, 5)", NONE, 1);
    for (int wrong : new int[] {0, 1000001, MIN, MAX}) e.refused(ring, "pay(0, 0, 1, " + wrong + ")", NONE, 1);
    for (int one : new int[] {0, 7}) e.refused(ring, "pay(0, " + one + ", " + one + ", 5)", NONE, 2);
    e.refused(ring, "pay(0, 0, 6, 5)", NONE, 2);
    e.refused(ring, "pay(1, 0, 6, 5)", NONE, 2);
    e.refused(Fixed.busy(), "pay(0, 2, 0, 5)", NONE, 2);
    e.refused(Given.NEW, "pay(0, 0, 1, 1)", NONE, 0);
  }

  private static void passAsked(Edge e) {
    e.says("Promise 16", "YEARS pass: YEAR.");
    e.run(Given.book(Fixed.BOOK + ";year 0"), "pass(1)", 1, "pass(20)", 21, "pass(19)", 40, "all(0)", 40, "count(4)", 3);
  }

  private static void passNone(Edge e) {
    e.says("Promise 16", "NONE: no BOOK (STATUS 0), not 1 .. 20 (1), YEAR would be above 199 (3).");
    e.bounds(Fixed.busy(), "pass(#)", new int[] {1, 20}, new long[] {52, 71}, NONE, 1);
    e.is(YEAR_198, "pass(1)", 199);
    e.refused(YEAR_198, "pass(2)", NONE, 3);
    e.refused(YEAR_198, "pass(0)", NONE, 1);
    for (int n : new int[] {1, 20, 0, 21, MIN, MAX}) e.refused(Given.NEW, "pass(" + n + ")", NONE, 0);
    e.refused(YEAR_198.and("pass(1)"), "pass(1)", NONE, 3);
    e.refused(YEAR_198.and("pass(1)"), "pass(20)", NONE, 3);
    e.refused(YEAR_198.and("pass(1)"), "pass(21)", NONE, 1);
    e.refused(YEAR_198.and("pass(1)"), "pass(0)", NONE, 1);
  }

  private static void staffAsked(Edge e) {
    e.says("Promise 17", "STAFF is set: what it was.");
    e.run(Given.book("land a 0 0 0;firm x a 99;firm y a 0"), "staff(0, 98)", 99, "staff(0, 0)", 98, "staff(0, 1)", 0, "staff(1, 99)", 0, "firm(0, 1)", 1, "firm(1, 1)", 99);
  }

  private static void staffNone(Edge e) {
    e.says("Promise 17", "NONE: no such FIRM (STATUS 0), not 0 .. 99 (1), it is so (2).");
    Given busy = Fixed.busy();
    e.bounds(busy, "staff(#, 42)", new int[] {0, 2}, new long[] {5, 9}, NONE, 0);
    e.bounds(Fixed.eightInARing(), "staff(#, 42)", new int[] {0, 7}, new long[] {0, 0}, NONE, 0);
    e.bounds(busy, "staff(2, #)", new int[] {0, 99}, new long[] {9, 9}, NONE, 1);
    e.refused(busy, "staff(2, 9)", NONE, 2);
    e.refused(busy, "staff(1, 2)", NONE, 2);
    e.is(busy, "staff(1, 3)", 2);
    e.is(busy, "staff(1, 1)", 2);
    e.refused(Fixed.eightInARing(), "staff(7, 0)", NONE, 2);
    e.refused(Given.book("land a 0 0 0;firm x a 99"), "staff(0, 99)", NONE, 2);
    e.refused(Given.NEW, "staff(0, 1)", NONE, 0);
  }

  private static void ownAsked(Edge e) {
    e.says("Promise 18", "A SHARE of the first FIRM in the second one is set: what it was (0 none).");
    e.run(Given.book(Fixed.BOOK), "own(1, 0, 31)", 30, "own(1, 0, 0)", 31, "own(1, 0, 100)", 0, "own(0, 1, 1)", 0, "own(0, 1, 2)", 1, "link(4, 1)", 0, "link(4, 2)", 1);
  }

  private static void ownNone(Edge e) {
    e.says("Promise 18", "NONE: no such FIRMS (STATUS 0), not 0 .. 100 (1), both are one, it is so (2), there are 16 LINKS (3).");
    Given busy = Fixed.busy();
    for (int wrong : new int[] {-1, 3, MIN, MAX}) {
      e.refused(busy, "own(" + wrong + ", 0, 5)", NONE, 0);
      e.refused(busy, "own(0, " + wrong + ", 5)", NONE, 0);
      e.refused(busy, "own(" + wrong + ", " + wrong + ", 5)", NONE, 0);
    }
    e.run(FULL, "own(0, 7, 49)", 50, "own(7, 6, 49)", 50);
    e.refused(FULL, "own(8, 0, 5)", NONE, 0);
    e.refused(FULL, "own(0, 8, 5)", NONE, 0);
    e.bounds(busy, "own(1, 0, #)", new int[] {0, 100}, new long[] {30, 30}, NONE, 1);
    for (int firm = 0; firm < 3; firm++) e.refused(busy, "own(" + firm + ", " + firm + ", 5)", NONE, 2);
    e.refused(busy, "own(1, 1, 0)", NONE, 2);
    e.refused(busy, "own(1, 0, 30)", NONE, 2);
    e.refused(busy, "own(2, 1, 100)", NONE, 2);
    e.refused(busy, "own(1, 2, 0)", NONE, 2);
    e.refused(Given.book("land a 0 0 0;firm x a 0;firm y a 0;owns y x 5 99"), "own(1, 0, 5)", NONE, 2);
    e.refused(FULL, "own(0, 2, 1)", NONE, 3);
    e.refused(FULL, "own(0, 2, 100)", NONE, 3);
    e.is(FULL.and("own(1, 0, 0)"), "own(0, 2, 1)", 0);
    e.refused(Given.NEW, "own(0, 1, 1)", NONE, 0);
  }

  private static void lendAsked(Edge e) {
    e.says("Promise 19", "A loan from the first FIRM to the second one: 1 made, 0 gone.");
    e.run(Given.book(Fixed.BOOK), "lend(2, 0)", 0, "lend(2, 0)", 1, "lend(0, 2)", 1, "lend(0, 2)", 0, "lend(1, 0)", 1, "link(4, 1)", 1, "link(4, 2)", 0, "best(1, 0, 1, 5, 0)", 5, "best(1, 1, 0, 5, 0)", NONE);
  }

  private static void lendNone(Edge e) {
    e.says("Promise 19", "NONE: no such FIRMS (STATUS 0), both are one (2), there are 16 LINKS (3).");
    Given busy = Fixed.busy();
    for (int wrong : new int[] {-1, 3, MIN, MAX}) {
      e.refused(busy, "lend(" + wrong + ", 0)", NONE, 0);
      e.refused(busy, "lend(0, " + wrong + ")", NONE, 0);
      e.refused(busy, "lend(" + wrong + ", " + wrong + ")", NONE, 0);
    }
    e.run(FULL, "lend(0, 7)", 0, "lend(7, 0)", 1);
    e.refused(FULL, "lend(8, 0)", NONE, 0);
    for (int firm = 0; firm < 3; firm++) e.refused(busy, "lend(" + firm + ", " + firm + ")", NONE, 2);
    e.refused(FULL, "lend(7, 7)", NONE, 2);
    e.refused(FULL, "lend(0, 2)", NONE, 3);
    e.is(FULL.and("own(1, 0, 0)"), "lend(0, 2)", 1);
    e.refused(Given.NEW, "lend(0, 1)", NONE, 0);
  }

  private static void statusCounts(Edge e) {
    e.says(TERMS, "STATUS: how many ACTS were refused as there was no such one, no BOOK (0), out of bounds (1), it is so, both are one, there is no WAY (2), too much: 16 LINKS, YEAR (3);");
    e.run(Given.NEW, "pass(1)", NONE, "pay(0, 0, 1, 1)", NONE, "staff(0, 0)", NONE, "own(0, 1, 1)", NONE, "lend(0, 1)", NONE, "status(0)", 5, "status(1)", 0, "status(2)", 0, "status(3)", 0);
    e.run(Given.book(Fixed.BOOK), "pay(0, 0, 3, 1)", NONE, "staff(3, 1)", NONE, "own(0, 3, 1)", NONE, "lend(3, 0)", NONE, "status(0)", 4,
        "pay(0, 0, 2, 0)", NONE, "pay(2, 0, 2, 1)", NONE, "pass(0)", NONE, "staff(0, 100)", NONE, "own(1, 0, 101)", NONE, "status(1)", 5,
        "pay(0, 0, 0, 1)", NONE, "pay(0, 2, 0, 1)", NONE, "staff(0, 5)", NONE, "own(0, 0, 5)", NONE, "own(1, 0, 30)", NONE, "lend(1, 1)", NONE, "status(2)", 6, "status(3)", 0, "status(0)", 4, "status(1)", 5);
    e.run(FULL, "own(0, 2, 1)", NONE, "lend(0, 2)", NONE, "status(3)", 2, "status(0)", 0, "status(1)", 0, "status(2)", 0);
    e.run(YEAR_198, "pass(2)", NONE, "status(3)", 1);
  }

  private static void statusOfSeveralTheFirst(Edge e) {
    e.says(TERMS, "of several the first;");
    e.refused(FULL, "pay(2, 8, 8, 0)", NONE, 0);
    e.refused(FULL, "pay(2, 0, 0, 5)", NONE, 1);
    e.refused(FULL, "pay(0, 3, 3, 0)", NONE, 1);
    e.refused(FULL, "pay(0, 0, 6, 1000001)", NONE, 1);
    e.refused(FULL, "staff(8, 100)", NONE, 0);
    e.refused(FULL, "own(8, 8, 101)", NONE, 0);
    e.refused(FULL, "own(0, 0, 101)", NONE, 1);
    e.refused(FULL, "own(0, 2, 101)", NONE, 1);
    e.refused(FULL, "own(0, 0, 5)", NONE, 2);
    e.refused(FULL, "own(0, 2, 0)", NONE, 2);
    e.refused(FULL, "lend(8, 8)", NONE, 0);
    e.refused(FULL, "lend(2, 2)", NONE, 2);
    e.refused(YEAR_198.and("pass(1)"), "pass(21)", NONE, 1);
    e.refused(Given.NEW, "pass(0)", NONE, 0);
    e.refused(Given.NEW, "own(0, 0, 101)", NONE, 0);
  }

  private static void statusNotUndone(Edge e) {
    e.says(TERMS, "not UNDONE.");
    e.run(Fixed.busy(), "status(0)", 1, "status(1)", 1, "status(2)", 1, "undo()", 4, "undo()", 3, "undo()", 2, "undo()", 1, "undo()", 0, "undo()", NONE,
        "status(0)", 1, "status(1)", 1, "status(2)", 1, "status(3)", 0);
    e.run(Fixed.busy(), "pass(0)", NONE, "back()", 51, "status(1)", 2);
  }

  private static void statusAsked(Edge e) {
    e.says("Promise 21", "STATUS.");
    e.run(Fixed.busy(), "status(0)", 1, "status(1)", 1, "status(2)", 1, "status(3)", 0);
    for (int what = 0; what < 4; what++) e.is(Given.NEW, "status(" + what + ")", 0);
  }

  private static void statusNone(Edge e) {
    e.says("Promise 21", "NONE: no such what.");
    e.bounds(Fixed.busy(), "status(#)", 0, 1, 3, 0, NONE);
    e.bounds(Given.NEW, "status(#)", 0, 0, 3, 0, NONE);
  }
}
