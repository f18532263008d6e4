/** Terms: UNDONE, the LOG, YEARS by draws, IMAGES; promises 20, 22, 23, 41 and 42. */
final class EdgesOfHistory {
  private static final String TERMS = "Terms";
  private static final int NONE = Edge.NONE;
  private static final int HIDDEN = Edge.HIDDEN;
  private static final String TWO_FIRMS = "land a 0 0 0;firm x a 50;firm y a 50;owns y x 30 0;lends y x 0";

  static void all(Edge e) {
    latest40CanBeUndone(e);
    undoAsked(e);
    undoNone(e);
    logOfEachAct(e);
    logNumbers(e);
    logFirms(e);
    logLatest60(e);
    logAsked(e);
    logHidden(e);
    yearsOneToForty(e);
    drawOf8(e);
    drawnAmounts(e);
    drawnYears(e);
    drawnStaff(e);
    drawnShares(e);
    drawnLoans(e);
    eachIsAnAct(e);
    xGoesRound(e);
    yearsAsked(e);
    yearsNone(e);
    imageKeepsAll(e);
    backIsSoAgain(e);
    noActCanBeUndoneThen(e);
    imageAsked(e);
    imageNone(e);
    backAsked(e);
    backNone(e);
  }

  /** ACTS that set STAFF of x to 1, 2, .. n. */
  private static Given staffed(int n) {
    Given g = Given.book("land a 0 0 0;firm x a 0;firm y a 7");
    for (int i = 1; i <= n; i++) g = g.and("staff(0, " + i + ")");
    return g;
  }

  private static void latest40CanBeUndone(Edge e) {
    e.says(TERMS, "All these are ACTS: the latest 40 can be UNDONE one by one (the LOG, too).");
    for (int n : new int[] {1, 39, 40, 41, 81}) {
      Used u = staffed(n).make();
      int can = Math.min(n, 40);
      e.due(n + " ACTS: count(4)", u.call("count(4)"), can);
      for (int i = 1; i <= can; i++) {
        e.due(n + " ACTS: undo " + i, u.call("undo()"), can - i);
        e.due(n + " ACTS: STAFF behind undo " + i, u.call("firm(0, 1)"), n - i);
        e.due(n + " ACTS: LOG behind undo " + i, u.call("count(3)"), Math.min(60, n - i));
        e.due(n + " ACTS: the LOG's latest behind undo " + i, u.call("log(0, 1)"), n - i > 0 ? n - i - 1 : HIDDEN);
      }
      e.due(n + " ACTS: one more", u.call("undo()"), NONE);
      e.due(n + " ACTS: STAFF then", u.call("firm(0, 1)"), n - can);
    }
    Given five = Given.book(Fixed.LOANS).and("pay(1, 0, 2, 1000)", "pass(3)", "staff(0, 9)", "own(2, 0, 8)", "lend(1, 0)");
    e.run(five, "undo()", 4, "count(6)", 3, "link(0, 1)", 1, "link(0, 2)", 0, "undo()", 3, "count(6)", 2, "undo()", 2, "firm(0, 1)", 0, "undo()", 1, "all(0)", 50,
        "undo()", 0, "firm(1, 2)", 0, "all(2)", 0, "all(3)", 0, "count(3)", 0);
  }

  private static void undoAsked(Edge e) {
    e.says("Promise 22", "The latest ACT is UNDONE: how many still can be.");
    e.run(staffed(2), "undo()", 1, "firm(0, 1)", 1, "staff(0, 5)", 1, "undo()", 1, "firm(0, 1)", 1, "undo()", 0, "firm(0, 1)", 0);
    e.run(staffed(50), "undo()", 39, "staff(0, 77)", 49, "count(4)", 40, "undo()", 39, "firm(0, 1)", 49);
    e.run(staffed(1), "staff(0, 1)", NONE, "undo()", 0, "firm(0, 1)", 0);
  }

  private static void undoNone(Edge e) {
    e.says("Promise 22", "NONE: none.");
    e.refused(Given.NEW, "undo()", NONE);
    e.refused(staffed(0), "undo()", NONE);
    e.refused(staffed(1).and("undo()"), "undo()", NONE);
    e.refused(staffed(41).times(40, "undo()"), "undo()", NONE);
    e.refused(staffed(3).and("image()", "back()"), "undo()", NONE);
    e.refused(staffed(3).and("book land a 0 0 0;firm x a 0"), "undo()", NONE);
  }

  private static void logOfEachAct(Edge e) {
    e.says(TERMS, "The LOG: of each ACT its sort (0 PAID, 1 YEARS, 2 STAFF, 3 SHARE, 4 loan),");
    for (int sort = 0; sort < 5; sort++) e.run(five(), "log(" + (4 - sort) + ", 0)", sort);
    e.run(five(), "staff(0, 100)", NONE, "count(3)", 5, "log(0, 0)", 4);
  }

  private static Given five() {
    return Given.book(Fixed.LOANS).and("pay(1, 0, 2, 1000)", "pass(3)", "staff(1, 9)", "own(2, 1, 8)", "lend(1, 2)");
  }

  private static void logNumbers(Edge e) {
    e.says(TERMS, "a number (what ARRIVES; YEAR then; STAFF as it was; SHARE as it was; 1 made, 0 gone),");
    e.run(five(), "log(4, 1)", 700, "log(3, 1)", 53, "log(2, 1)", 0, "log(1, 1)", 0, "log(0, 1)", 1);
    e.run(five(), "own(2, 1, 9)", 8, "log(0, 1)", 8, "own(2, 1, 0)", 9, "log(0, 1)", 9, "lend(1, 2)", 0, "log(0, 1)", 0, "staff(1, 99)", 9, "log(0, 1)", 9, "pass(20)", 73, "log(0, 1)", 73);
    e.run(Given.book("land a 0 1000 0;land b 0 0 0;firm p a 0;firm q b 0;lends q p 0"), "pay(1, 0, 1, 5)", 0, "log(0, 0)", 0, "log(0, 1)", 0);
  }

  private static void logFirms(Edge e) {
    e.says(TERMS, "the FIRM (the last one; NONE; that one; the first told):");
    e.run(five(), "log(4, 2)", 2, "log(3, 2)", NONE, "log(2, 2)", 1, "log(1, 2)", 2, "log(0, 2)", 1);
  }

  private static void logLatest60(Edge e) {
    e.says(TERMS, "the latest 60.");
    e.run(staffed(59), "count(3)", 59, "log(58, 1)", 0, "log(59, 1)", HIDDEN);
    e.run(staffed(60), "count(3)", 60, "log(0, 1)", 59, "log(59, 1)", 0, "log(60, 1)", HIDDEN);
    e.run(staffed(61), "count(3)", 60, "log(0, 1)", 60, "log(59, 1)", 1, "log(60, 1)", HIDDEN);
    e.run(staffed(99), "count(3)", 60, "log(0, 1)", 98, "log(59, 1)", 39);
    Used u = staffed(99).make();
    for (int i = 0; i < 40; i++) u.call("undo()");
    e.due("59 stand: count(3)", u.call("count(3)"), 59);
    e.due("59 stand: the oldest", u.call("log(58, 1)"), 0);
  }

  private static void logAsked(Edge e) {
    e.says("Promise 23", "The LOG, the latest (i 0), the one ahead of it (1) ..: 0 sort, 1 number, 2 FIRM.");
    int[][] due = {{4, 1, 1}, {3, 0, 2}, {2, 0, 1}, {1, 53, NONE}, {0, 700, 2}};
    for (int i = 0; i < 5; i++) for (int what = 0; what < 3; what++) e.is(five(), "log(" + i + ", " + what + ")", due[i][what]);
  }

  private static void logHidden(Edge e) {
    e.says("Promise 23", "HIDDEN: no such ones.");
    e.bounds(five(), "log(#, 0)", 0, 4, 4, 0, HIDDEN);
    e.bounds(five(), "log(1, #)", 0, 3, 2, 2, HIDDEN);
    e.bounds(staffed(60), "log(#, 1)", 0, 59, 59, 0, HIDDEN);
    e.bounds(staffed(99), "log(#, 1)", 0, 98, 59, 39, HIDDEN);
    e.refused(Given.NEW, "log(0, 0)", HIDDEN);
    e.refused(staffed(0), "log(0, 0)", HIDDEN);
  }

  /** The document's x, told once more. */
  private static final class Draws {
    private long x;

    Draws(long seed) {
      x = seed;
    }

    int of(int j) {
      x = x * 6364136223846793005L + 1442695040888963407L;
      return (int) ((x >>> 33) % j);
    }
  }

  /** A seed whose first draws are these, each of so many; NONE: any. */
  private static long seed(int[] of, int[] wanted) {
    for (long seed = 1; seed < 20000000; seed++) {
      Draws d = new Draws(seed * 7919);
      int i = 0;
      while (i < of.length) {
        int drawn = d.of(of[i]);
        if (wanted[i] != NONE && drawn != wanted[i]) break;
        i++;
      }
      if (i == of.length) return seed * 7919;
    }
    throw new IllegalStateException("no such seed");
  }

  private static Given drawn(int[] of, int... wanted) {
    return Given.book(TWO_FIRMS).and("years(1, " + seed(of, wanted) + ")");
  }

  private static final int[] PAID = {8, 2, 2, 2, 1000};
  private static final int[] PASSED = {8, 5};
  private static final int[] STAFFED = {8, 2, 100};
  private static final int[] OWNED = {8, 2, 2, 101};
  private static final int[] LENT = {8, 2, 2};

  private static void yearsOneToForty(Edge e) {
    e.says(TERMS, "YEARS by a seed: n (1 .. 40) times:");
    Given loans = Given.book(TWO_FIRMS);
    e.run(loans, "years(1, 5)", yearBehind(1, 5), "years(40, 5)", 50 + (yearBehind(1, 5) - 50) + (yearBehind(40, 5) - 50));
    for (int wrong : new int[] {0, -1, 41, Edge.MIN, Edge.MAX}) e.refused(loans, "years(" + wrong + ", 5)", NONE);
  }

  /** The YEAR that n draws lead to from 50, in a BOOK of two FIRMS. */
  private static int yearBehind(int n, long seed) {
    Draws d = new Draws(seed);
    int year = 50;
    for (int i = 0; i < n; i++) {
      int kind = d.of(8);
      if (kind == 4) year += d.of(5) + 1;
      else if (kind < 4) for (int j : new int[] {2, 2, 2, 1000}) d.of(j);
      else for (int j : kind == 5 ? new int[] {2, 100} : kind == 6 ? new int[] {2, 2, 101} : new int[] {2, 2}) d.of(j);
    }
    return year;
  }

  private static void drawOf8(Edge e) {
    e.says(TERMS, "a draw of 8: 0 to 3: draws of 2, of FIRMS, of FIRMS, of 1000 and 1: SORT, FROM, TO, AMOUNT PAID;");
    for (int kind = 0; kind < 4; kind++) for (int sort = 0; sort < 2; sort++) {
      e.run(drawn(PAID, kind, sort, 0, 1, 499), "count(3)", 1, "log(0, 0)", 0, "log(0, 1)", 500, "log(0, 2)", 1, "firm(1, 3)", 500);
      Given unlike = Given.book("land a 100 200 0;land b 300 400 0;firm x a 0;firm y b 0;owns y x 30 0;lends y x 0;owns x y 30 0;lends x y 0");
      e.run(unlike.and("years(1, " + seed(PAID, new int[] {kind, sort, 0, 1, 499}) + ")"), "firm(1, 3)", sort == 0 ? 450 : 400, "land(0, 3)", sort == 0 ? 50 : 100);
      e.run(unlike.and("years(1, " + seed(PAID, new int[] {kind, sort, 1, 0, 499}) + ")"), "firm(0, 3)", sort == 0 ? 350 : 300, "land(1, 3)", sort == 0 ? 150 : 200);
    }
    for (int sort = 0; sort < 2; sort++) {
      Given one = Given.book("land a 0 0 0;firm x a 0;firm y a 0;" + (sort == 0 ? "owns y x 30 0" : "lends y x 0"));
      e.is(one.and("years(1, " + seed(PAID, new int[] {0, sort, 0, 1, 7}) + ")"), "firm(1, 3)", 8);
      e.refused(one, "years(1, " + seed(PAID, new int[] {0, 1 - sort, 0, 1, 7}) + ")", 50);
    }
  }

  private static void drawnAmounts(Edge e) {
    e.says(TERMS, "of 1000 and 1:");
    e.run(drawn(PAID, 0, 0, 0, 1, 0), "log(0, 1)", 1, "firm(1, 3)", 1);
    e.run(drawn(PAID, 3, 1, 0, 1, 999), "log(0, 1)", 1000, "firm(1, 3)", 1000);
  }

  private static void drawnYears(Edge e) {
    e.says(TERMS, "4: a draw of 5 and 1: so many YEARS;");
    for (int n = 0; n < 5; n++) e.run(drawn(PASSED, 4, n), "all(0)", 51 + n, "log(0, 0)", 1, "log(0, 1)", 51 + n, "count(4)", 1);
    Given late = Given.book(TWO_FIRMS + ";year 99").times(4, "pass(20)").and("pass(16)");
    e.is(late, "years(1, " + seed(PASSED, new int[] {4, 3}) + ")", 199);
    e.refused(late, "years(1, " + seed(PASSED, new int[] {4, 4}) + ")", 195);
  }

  private static void drawnStaff(Edge e) {
    e.says(TERMS, "5: draws of FIRMS, of 100: STAFF;");
    e.run(drawn(STAFFED, 5, 0, 0), "firm(0, 1)", 0, "firm(1, 1)", 50, "log(0, 0)", 2, "log(0, 1)", 50, "log(0, 2)", 0);
    e.run(drawn(STAFFED, 5, 1, 99), "firm(1, 1)", 99, "firm(0, 1)", 50);
    e.refused(Given.book(TWO_FIRMS), "years(1, " + seed(STAFFED, new int[] {5, 1, 50}) + ")", 50);
  }

  private static void drawnShares(Edge e) {
    e.says(TERMS, "6: draws of FIRMS, of FIRMS, of 101: SHARE;");
    e.run(drawn(OWNED, 6, 1, 0, 0), "count(6)", 1, "log(0, 0)", 3, "log(0, 1)", 30, "log(0, 2)", 1);
    e.run(drawn(OWNED, 6, 0, 1, 100), "count(6)", 3, "link(2, 3)", 100, "link(2, 1)", 0);
    e.run(drawn(OWNED, 6, 1, 0, 1), "link(0, 3)", 1);
    e.refused(Given.book(TWO_FIRMS), "years(1, " + seed(OWNED, new int[] {6, 1, 0, 30}) + ")", 50);
    e.refused(Given.book(TWO_FIRMS), "years(1, " + seed(OWNED, new int[] {6, 0, 1, 0}) + ")", 50);
  }

  private static void drawnLoans(Edge e) {
    e.says(TERMS, "7: draws of FIRMS, of FIRMS: loan.");
    e.run(drawn(LENT, 7, 0, 1), "count(6)", 3, "link(2, 0)", 1, "link(2, 1)", 0, "link(2, 2)", 1, "link(2, 4)", 50, "log(0, 0)", 4, "log(0, 1)", 1);
    e.run(drawn(LENT, 7, 1, 0), "count(6)", 1, "log(0, 1)", 0, "log(0, 2)", 1);
  }

  private static void eachIsAnAct(Edge e) {
    e.says(TERMS, "Each is an ACT; what can't be is left (no STATUS).");
    Given two = Given.book(TWO_FIRMS);
    e.refused(two, "years(1, " + seed(PAID, new int[] {0, 0, 1, 1, NONE}) + ")", 50);
    e.refused(two, "years(1, " + seed(PAID, new int[] {0, 0, 1, 0, NONE}) + ")", 50);
    e.refused(two, "years(1, " + seed(LENT, new int[] {7, 0, 0}) + ")", 50);
    e.refused(two, "years(1, " + seed(OWNED, new int[] {6, 1, 1, 5}) + ")", 50);
    e.refused(Fixed.eightInARing(), "years(1, " + seed(new int[] {8, 8, 8}, new int[] {7, 0, 4}) + ")", 50);
    Used u = two.make();
    u.call("years(40, 12345)");
    long acts = u.call("count(4)");
    e.due("ACTS, but not all can be", acts > 5 && acts < 40 ? 1 : 0, 1);
    e.due("as long is the LOG", u.call("count(3)"), acts);
    for (int what = 0; what < 4; what++) e.due("no STATUS " + what, u.call("status(" + what + ")"), 0);
    for (long left = acts - 1; left >= 0; left--) e.due("undo", u.call("undo()"), left);
    e.due("YEAR as it was", u.call("all(0)"), 50);
    e.due("GOT as it was", u.call("all(3)"), 0);
  }

  private static void xGoesRound(Edge e) {
    e.says(TERMS, "x, at first the seed, becomes x times 6364136223846793005 and 1442695040888963407 (64 bits, going round); a draw of j: (x shifted right by 33, without sign) modulo j.");
    for (long seed : new long[] {0, 1, -1, Long.MIN_VALUE, Long.MAX_VALUE, 1L << 32, -(1L << 40)}) {
      e.is(Given.book(TWO_FIRMS), "years(1, " + seed + ")", yearBehind(1, seed));
      e.is(Given.book(TWO_FIRMS), "years(40, " + seed + ")", yearBehind(40, seed));
      e.run(Given.book(TWO_FIRMS), "years(20, " + seed + ")", yearBehind(20, seed), "years(20, " + seed + ")", 2 * yearBehind(20, seed) - 50);
    }
  }

  private static void yearsAsked(Edge e) {
    e.says("Promise 20", "YEARS: YEAR.");
    e.run(Given.book(TWO_FIRMS), "years(40, 99)", yearBehind(40, 99), "all(0)", yearBehind(40, 99));
    e.run(Given.book("land a 0 0 0;firm x a 0"), "years(1, " + seed(new int[] {8, 1, 100}, new int[] {5, 0, 42}) + ")", 50, "firm(0, 1)", 42);
  }

  private static void yearsNone(Edge e) {
    e.says("Promise 20", "NONE: no BOOK, out of bounds.");
    for (int n : new int[] {1, 40, 0, 41}) e.refused(Given.NEW, "years(" + n + ", 5)", NONE);
    for (int n : new int[] {0, -1, 41, Edge.MIN, Edge.MAX}) e.refused(Fixed.busy(), "years(" + n + ", 5)", NONE);
    e.is(Given.book(TWO_FIRMS), "years(1, 5)", yearBehind(1, 5));
    e.is(Given.book(TWO_FIRMS), "years(40, 5)", yearBehind(40, 5));
  }

  private static void imageKeepsAll(Edge e) {
    e.says(TERMS, "An IMAGE keeps all that ACTS change;");
    Given before = five();
    Given behind = before.and("image()", "pay(1, 0, 1, 500)", "pass(9)", "staff(1, 1)", "own(2, 1, 0)", "lend(1, 0)", "staff(0, 9)", "back()");
    e.due("what back() has not brought", before.and("image()", "back()").look().unlike(behind.look()), "");
    e.run(behind, "all(0)", 53, "firm(1, 1)", 9, "firm(1, 2)", 100, "firm(1, 3)", 0, "land(0, 3)", 300, "link(2, 3)", 8, "count(6)", 4, "count(3)", 5, "log(0, 0)", 4);
    Given undone = before.and("image()", "undo()", "undo()", "undo()", "back()");
    e.due("what back() has not brought again", before.and("image()", "back()").look().unlike(undone.look()), "");
  }

  private static void backIsSoAgain(Edge e) {
    e.says(TERMS, "BACK: it is so again");
    e.run(five(), "image()", 53, "pass(1)", 54, "back()", 53, "pass(2)", 55, "back()", 53, "back()", 53, "all(0)", 53);
    e.run(staffed(99), "image()", 50, "staff(0, 5)", 99, "back()", 50, "count(3)", 60, "log(0, 1)", 98, "log(59, 1)", 39);
    Used u = staffed(99).and("image()").make();
    for (int i = 0; i < 45; i++) u.call("staff(1, " + (i + 10) + ")");
    u.call("back()");
    e.due("LOG", u.call("count(3)"), 60);
    e.due("the LOG's oldest", u.call("log(59, 1)"), 39);
    for (int i = 0; i < 40; i++) u.call("staff(1, " + (i + 10) + ")");
    for (int i = 0; i < 40; i++) u.call("undo()");
    e.due("LOG, 40 ACTS and undone", u.call("count(3)"), 60);
    e.due("the LOG's latest", u.call("log(0, 1)"), 98);
    e.due("the LOG's oldest", u.call("log(59, 1)"), 39);
  }

  private static void noActCanBeUndoneThen(Edge e) {
    e.says(TERMS, "(no ACT can be UNDONE then).");
    e.run(five(), "image()", 53, "count(4)", 5, "back()", 53, "count(4)", 0, "undo()", NONE, "pass(1)", 54, "count(4)", 1, "undo()", 0, "undo()", NONE, "all(0)", 53);
    e.run(five(), "image()", 53, "undo()", 4, "count(6)", 3, "back()", 53, "count(6)", 4, "undo()", NONE);
  }

  private static void imageAsked(Edge e) {
    e.says("Promise 41", "An IMAGE (instead of the one ahead): YEAR.");
    e.run(five(), "image()", 53, "pass(4)", 57, "image()", 57, "pass(5)", 62, "back()", 57, "back()", 57);
    Given late = Given.book(TWO_FIRMS + ";year 99").times(5, "pass(20)");
    e.run(late, "image()", 199, "back()", 199);
    e.is(Given.book(TWO_FIRMS + ";year 0"), "image()", 0);
    e.run(five(), "image()", 53, "count(3)", 5, "count(4)", 5, "undo()", 4);
  }

  private static void imageNone(Edge e) {
    e.says("Promise 41", "NONE: no BOOK.");
    e.refused(Given.NEW, "image()", NONE);
    e.refused(Given.NEW.and("script pass 1"), "image()", NONE);
  }

  private static void backAsked(Edge e) {
    e.says("Promise 42", "BACK: YEAR.");
    e.run(five().and("image()", "pass(20)"), "back()", 53, "all(0)", 53);
  }

  private static void backNone(Edge e) {
    e.says("Promise 42", "NONE: no IMAGE of this BOOK.");
    e.refused(Given.NEW, "back()", NONE);
    e.refused(five(), "back()", NONE);
    e.refused(Fixed.busy().and("end(0)", "book " + TWO_FIRMS), "back()", NONE);
    e.refused(five().and("image()", "book " + Fixed.LOANS), "back()", NONE);
    e.run(five().and("image()", "tape land"), "text(0)", NONE, "back()", 53);
  }
}
