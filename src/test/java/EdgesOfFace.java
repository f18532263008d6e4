/** The TAPE, texts taken, all(), count(), the constants, and what a new object answers; promises 1 to 5, 40 and 43. */
final class EdgesOfFace {
  private static final int NONE = Edge.NONE;
  private static final int HIDDEN = Edge.HIDDEN;
  private static final String ONE = "land a 0 0 0;firm x a 0";

  static void all(Edge e) {
    calls512(e);
    whatIsRefused(e);
    constantNone(e);
    constantHidden(e);
    noBook(e);
    twentyBytesMore(e);
    highestFirst(e);
    zerosAreLeftOut(e);
    moreThan400(e);
    firstBytesAlone(e);
    endFalse(e);
    faultAsked(e);
    faultNone(e);
    faultNoSuchSort(e);
    textIsTheBook(e);
    allThatWasIsGone(e);
    howManyFirms(e);
    scriptsNumber(e);
    textNone(e);
    allAsked(e);
    allOfSeveralTheLowest(e);
    allLaterLinks(e);
    allHidden(e);
    countAsked(e);
    countHidden(e);
  }

  private static void calls512(Edge e) {
    e.says("What it is", "An object is used for at most 512 calls after it has been made; what later calls answer is free.");
    Used u = Given.book(ONE).make();
    for (int i = 3; i < 510; i++) u.call("staff(0, " + (1 + i % 99) + ")");
    e.due("the 511th call: STAFF as it was", u.call("staff(0, 0)"), 1 + 509 % 99);
    e.due("the 512th call", u.call("log(0, 1)"), 1 + 509 % 99);
    TreatyRouter most = Check.of("land a 0 500 0;land b 0 0 0;firm x a 0;firm y b 0;firm z b 0;lends y x 0;lends z y 0");
    for (int i = 0; i < 500; i++) most.pay(1, 0, 2, 1000000);
    e.due("the most that can be TAKEN", most.all(2), 250000000);
    e.due("the most that can be GOT", most.all(3), 250000000);
    e.due("the most CREDIT", most.all(1), 250000000);
  }

  private static void whatIsRefused(Edge e) {
    e.says("Terms", "What is refused answers as told and changes nothing but STATUS.");
    e.refused(Fixed.busy(), "pay(0, 0, 2, 0)", NONE, 1);
    e.refused(Fixed.busy(), "pass(21)", NONE, 1);
    e.refused(Fixed.busy(), "text(0)", NONE);
    e.refused(Fixed.busy(), "text(1)", NONE);
    e.refused(Fixed.busy(), "years(41, 1)", NONE);
    e.refused(Fixed.busy().times(40, "staff(0, 6)", "staff(0, 5)"), "staff(0, 100)", NONE, 1);
  }

  private static void constantNone(Edge e) {
    e.says("Terms", "The constants: `NONE = -1`: None; refused.");
    e.due("NONE", TreatyRouter.NONE, -1);
    e.is(Given.NEW, "land(0, 0)", -1);
  }

  private static void constantHidden(Edge e) {
    e.says("Terms", "`HIDDEN = -1000000`: Not told.");
    e.due("HIDDEN", TreatyRouter.HIDDEN, -1000000);
    e.is(Given.NEW, "all(0)", -1000000);
  }

  private static void noBook(Edge e) {
    e.says("Promise 1", "No BOOK.");
    for (int what = 0; what < 7; what++) e.is(Given.NEW, "count(" + what + ")", 0);
    for (int what = 0; what < 4; what++) e.is(Given.NEW, "status(" + what + ")", 0);
    for (String call : new String[] {"land(0, 0)", "name(0, 0, 0)", "name(1, 0, 0)", "link(0, 0)", "treaty(0, 1, 0, 0)", "hop(0, 0, 1, 1, 0)", "best(0, 0, 1, 1, 0)",
        "stop(0, 0, 1, 1, 0, 0)", "spell(0, 0, 1, 1, -1)", "years(1, 1)", "undo()", "asOf(0, 0, 1, 1, 0, 0)", "hire(0, 0, 1, 1, 0)", "without(0, 0, 1, 1, 2)", "key(0, 0, 1, 1)",
        "lapsed(0, 0, 1, 1, 0, 1)", "soon(0, 0, 1, 1)", "loops(0, 0, 1)", "least(0, 0, 1, 1, 0)", "direct(0, 0, 1, 1)", "take(0, 0, 1, 1, 0)", "twice(0, 0, 1, 1)",
        "gross(0, 0, 1, 1)", "worth(0, 0, 1, 1, 0)", "perform(0)", "image()", "back()", "text(0)", "text(1)"}) {
      e.refused(Given.NEW, call, NONE);
    }
    for (String call : new String[] {"log(0, 0)", "step(0, 0, 0)", "run(0, 0)", "run(0, 1)"}) e.refused(Given.NEW, call, HIDDEN);
    for (int what = 0; what < 9; what++) e.refused(Given.NEW, "all(" + what + ")", HIDDEN);
    for (String call : new String[] {"pay(0, 0, 1, 1)", "pass(1)", "staff(0, 1)", "own(0, 1, 1)", "lend(0, 1)"}) e.refused(Given.NEW, call, NONE, 0);
    e.refused(Given.NEW, "firm(0, 0)", Used.THROWS);
    e.run(Given.NEW, "fault(0)", 0, "fault(1)", 0, "end(0)", 1, "end(1)", 0);
  }

  private static void twentyBytesMore(Edge e) {
    e.says("Promise 2", "Twenty bytes more come to the TAPE");
    String all = "feed(-1, -1, -1, -1, -1)";
    e.run(Given.NEW, all, 20, all, 40, "count(2)", 40);
    e.run(Given.NEW.and("tape land a 0 0 0;firm x "), Used.feed("a 0;year 7          "), 40, "fault(0)", NONE, "text(0)", 1, "all(0)", 7);
  }

  private static void highestFirst(Edge e) {
    e.says("Promise 2", "(of each number the highest first;");
    e.run(Given.NEW, "feed(" + 0x70617373 + ", " + 0x20313233 + ", 0, 0, 0)", 8, "text(1)", 0, "step(0, 0, 0)", 1, "step(0, 0, 1)", 123);
    e.run(Given.NEW, "feed(" + 0x70 + ", " + 0x61 + ", " + 0x73 + ", " + 0x73 + ", " + 0x39 + ")", 5, "text(1)", 0, "step(0, 0, 1)", 9);
    e.run(Given.NEW, "feed(" + 0x70000061 + ", " + 0x00730000 + ", " + 0x00007300 + ", " + 0x00000031 + ", " + 0x32000000 + ")", 6, "text(1)", 0, "step(0, 0, 1)", 12);
  }

  private static void zerosAreLeftOut(Edge e) {
    e.says("Promise 2", "bytes of 0 are left out): how many it has.");
    e.run(Given.NEW, "feed(0, 0, 0, 0, 0)", 0, "count(2)", 0);
    e.run(Given.NEW.and("tape pass"), "feed(0, 0, 0, 0, 0)", 4);
    for (int at = 0; at < 20; at++) {
      for (char b : new char[] {1, 'x', 127, 128, 255}) e.is(Given.NEW.and("tape pass"), Used.feed("\0".repeat(at) + b), 5);
      e.run(Given.NEW.and("tape pass "), Used.feed("\0".repeat(at) + '7'), 6, "text(1)", 0, "step(0, 0, 1)", 7);
      StringBuilder holed = new StringBuilder("1".repeat(20));
      holed.setCharAt(at, '\0');
      e.is(Given.NEW, Used.feed(holed.toString()), 19);
    }
  }

  private static void moreThan400(Edge e) {
    e.says("Promise 2", "NONE: more than 400.");
    String all = "feed(-1, -1, -1, -1, -1)";
    Given at380 = Given.NEW.times(19, all);
    e.run(at380, "count(2)", 380, all, 400, "count(2)", 400);
    e.refused(at380.and(all), all, NONE);
    for (int at = 0; at < 20; at++) e.refused(at380.and(all), Used.feed("\0".repeat(at) + 'x'), NONE);
    e.is(at380.and(all), "feed(0, 0, 0, 0, 0)", 400);
    Given at381 = at380.and("feed(1, 0, 0, 0, 0)");
    e.refused(at381, all, NONE);
    e.is(at381, "feed(-1, -1, -1, -1, " + 0x00ffffff + ")", 400);
    e.is(at381, "feed(" + 0x00ffffff + ", -1, -1, -1, -1)", 400);
    Given at399 = at380.and("feed(-1, -1, -1, -1, " + 0x00ffffff + ")");
    e.is(at399, "feed(0, 0, " + 0x00010000 + ", 0, 0)", 400);
    e.refused(at399, "feed(0, " + 0x00010000 + ", 1, 0, 0)", NONE);
    e.refused(at399, "feed(257, 0, 0, 0, 0)", NONE);
    e.run(at380.and(all), all, NONE, "end(399)", 1, "feed(1, 0, 0, 0, 0)", 400);
    e.run(Given.NEW.and("tape " + ONE + " ".repeat(377)), "count(2)", 400, "fault(0)", NONE, "text(0)", 1);
    String full = ONE + " ".repeat(371);
    e.faultAt(0, full + ";year ", 400);
    e.faultAt(0, full + " ;year", 400);
    e.faultAt(0, full + "  ;yea", 397);
    e.faultAt(0, full + ";year5", NONE);
    e.faultAt(0, full + "     ;", 400);
    e.faultAt(1, "pass 1" + " ".repeat(388) + ";pass5", NONE);
    e.faultAt(1, "pass 1" + " ".repeat(389) + ";pass", 400);
    e.faultAt(1, "pass 1" + " ".repeat(393) + ";", 400);
  }

  private static void firstBytesAlone(Edge e) {
    e.says("Promise 3", "The TAPE has its first n bytes alone.");
    Given g = Given.NEW.and("tape pass 123");
    e.run(g, "end(8)", 1, "count(2)", 8, "end(7)", 1, "count(2)", 7, "text(1)", 0, "step(0, 0, 1)", 12);
    e.run(g, "end(1)", 1, "count(2)", 1, "fault(1)", 0);
    e.run(g, "end(0)", 1, "count(2)", 0, "fault(1)", 0, "end(0)", 1);
    e.run(g, "end(4)", 1, "fault(1)", 4, Used.feed(" 9"), 6, "text(1)", 0, "step(0, 0, 1)", 9);
    e.run(Given.NEW.and("tape year 55"), "end(6)", 1, "fault(0)", 6, "end(4)", 1, "fault(0)", 4, "end(3)", 1, "fault(0)", 0);
    e.run(Given.NEW.and("tape pass 1;pass 2"), "end(6)", 1, "fault(1)", NONE, "text(1)", 0, "step(0, 1, 0)", HIDDEN);
    e.run(Given.NEW.and("tape " + ONE + " "), "end(24)", 1, "fault(0)", NONE, "end(23)", 1, "fault(0)", NONE, "end(22)", 1, "fault(0)", 22);
    e.is(Given.NEW, "end(0)", 1);
    e.is(Given.NEW.times(20, "feed(-1, -1, -1, -1, -1)"), "end(400)", 1);
  }

  private static void endFalse(Edge e) {
    e.says("Promise 3", "False: n.");
    e.bounds(Given.NEW.and("tape pass 123"), "end(#)", 0, 1, 8, 1, 0);
    e.bounds(Given.NEW, "end(#)", 0, 1, 0, 1, 0);
    e.bounds(Given.NEW.times(20, "feed(-1, -1, -1, -1, -1)"), "end(#)", 0, 1, 400, 1, 0);
    e.bounds(Fixed.busy(), "end(#)", 0, 1, 10, 1, 0);
    e.run(Given.NEW.and("tape pass 123"), "end(3)", 1, "end(4)", 0, "end(8)", 0, "count(2)", 3);
  }

  private static void faultAsked(Edge e) {
    e.says("Promise 4", "The FAULT of the TAPE as a BOOK (0), a SCRIPT (1).");
    e.run(Given.NEW.and("tape pass x"), "fault(0)", 0, "fault(1)", 5);
    e.run(Given.NEW.and("tape land x y"), "fault(0)", 7, "fault(1)", 0);
    e.run(Fixed.busy(), "fault(0)", 10, "fault(1)", 0);
    Given four = Given.NEW.times(4, "script pass 1").and("tape staff 1");
    e.run(four, "fault(1)", 7, "fault(0)", 0);
    e.refused(Fixed.busy(), "fault(0)", 10);
    e.refused(Fixed.busy(), "fault(1)", 0);
  }

  private static void faultNone(Edge e) {
    e.says("Promise 4", "NONE: none.");
    e.refused(Given.NEW.and("tape " + ONE), "fault(0)", NONE);
    e.refused(Given.NEW.and("tape pass 1"), "fault(1)", NONE);
    e.refused(Fixed.busy().and("end(0)", "tape " + ONE), "fault(0)", NONE);
    e.refused(Fixed.busy().and("end(0)", "tape staff 1 1;own 0 1 2"), "fault(1)", NONE);
    e.refused(Given.NEW.times(4, "script pass 1").and("tape staff 1 1"), "fault(1)", NONE);
  }

  private static void faultNoSuchSort(Edge e) {
    e.says("Promise 4", "-2: no such sort.");
    for (int sort : new int[] {-1, 2, Edge.MIN, Edge.MAX}) {
      e.refused(Given.NEW, "fault(" + sort + ")", -2);
      e.refused(Fixed.busy(), "fault(" + sort + ")", -2);
      e.refused(Given.NEW.and("tape " + ONE), "fault(" + sort + ")", -2);
    }
  }

  private static void textIsTheBook(Edge e) {
    e.says("Promise 5", "The TAPE (empty then) is the BOOK");
    e.run(Given.NEW.and("tape " + Fixed.BOOK), "text(0)", 3, "count(2)", 0, "count(0)", 3, "count(5)", 3, "count(6)", 4, "all(0)", 50, "text(0)", NONE);
    e.run(Given.NEW.and("tape pass 1"), "text(1)", 0, "count(2)", 0, "text(1)", NONE);
  }

  private static void allThatWasIsGone(Edge e) {
    e.says("Promise 5", "(all that was of another one is gone but SCRIPTS, STATUS):");
    Given behind = Fixed.busy().and("end(0)", "book " + Fixed.LOANS);
    Given alone = Given.book(Fixed.LOANS).and("script pass 2;pay 0 0 2 5", "script staff 0 7");
    e.due("what is not as if there had been no other BOOK", alone.look().unlike(behind.look()), "");
    e.run(behind, "status(0)", 1, "status(1)", 1, "status(2)", 1, "status(3)", 0, "count(1)", 2, "step(0, 0, 1)", 2, "count(3)", 0, "count(4)", 0, "back()", NONE, "undo()", NONE);
    Given full = Fixed.eightInARing().and("pay(1, 0, 5, 9)", "book " + ONE);
    e.due("what is not as if there had been no full BOOK", Given.book(ONE).look().unlike(full.look()), "");
    Given later = Given.book(ONE + ";year 7").and("pass(20)", "book " + ONE);
    e.due("YEAR of another one", Given.book(ONE).look().unlike(later.look()), "");
  }

  private static void howManyFirms(Edge e) {
    e.says("Promise 5", "how many FIRMS;");
    StringBuilder b = new StringBuilder("land a 0 0 0");
    for (int n = 1; n <= 8; n++) {
      b.append(";firm ").append((char) ('p' + n - 1)).append(" a 0");
      e.run(Given.NEW.and("tape " + b), "text(0)", n, "count(0)", n);
    }
  }

  private static void scriptsNumber(Edge e) {
    e.says("Promise 5", "a SCRIPT: its number.");
    Given g = Given.NEW;
    for (int n = 0; n < 4; n++) {
      e.run(g.and("tape pass " + (n + 5)), "text(1)", n, "count(1)", n + 1, "step(" + n + ", 0, 1)", n + 5);
      g = g.and("script pass " + (n + 5));
    }
    e.run(g, "step(0, 0, 1)", 5, "step(1, 0, 1)", 6, "step(2, 0, 1)", 7, "step(3, 0, 1)", 8);
  }

  private static void textNone(Edge e) {
    e.says("Promise 5", "NONE: a FAULT (the TAPE stays), no such sort, there are four SCRIPTS.");
    e.refused(Fixed.busy(), "text(0)", NONE);
    e.refused(Fixed.busy(), "text(1)", NONE);
    e.refused(Given.NEW.and("tape " + ONE), "text(1)", NONE);
    e.refused(Given.NEW.and("tape pass 1"), "text(0)", NONE);
    e.refused(Given.NEW.and("tape " + ONE + ";year 100"), "text(0)", NONE);
    for (int sort : new int[] {-1, 2, Edge.MIN, Edge.MAX}) {
      e.refused(Fixed.busy(), "text(" + sort + ")", NONE);
      e.refused(Given.NEW.and("tape " + ONE), "text(" + sort + ")", NONE);
      e.refused(Given.NEW.and("tape pass 1"), "text(" + sort + ")", NONE);
    }
    Given four = Fixed.busy().and("end(0)", "script lend 0 1", "script pass 3");
    e.refused(four.and("tape pass 1"), "text(1)", NONE);
    e.is(four.and("tape " + ONE), "text(0)", 1);
    e.run(four.and("tape pass 1"), "text(1)", NONE, "count(2)", 6, "count(1)", 4, "text(0)", NONE, "end(0)", 1, "count(2)", 0);
  }

  private static void allAsked(Edge e) {
    e.says("Promise 40", "YEAR (0), CREDIT of all (1), TAKEN of all (2), GOT of all (3), LINKS (4), TREATIES in force now (5: couples of LANDS),");
    Given loans = Given.book(Fixed.LOANS).and("pay(1, 0, 2, 1000)", "pay(1, 0, 1, 100)");
    e.run(loans, "all(0)", 50, "all(1)", 100, "all(2)", 330, "all(3)", 770, "all(4)", 2, "all(5)", 0, "pass(9)", 59, "all(5)", 0, "pass(1)", 60, "all(5)", 1);
    e.run(Fixed.busy(), "all(0)", 51, "all(2)", 118, "all(3)", 882, "all(4)", 6, "all(5)", 3);
    String six = "land a 0 0 0;land b 0 0 0;land c 0 0 0;land d 0 0 0;land e 0 0 0;land f 0 0 0;firm x a 0;";
    e.run(Given.book(six + "treaty a b 0 0 0 0 0 0 0 0;treaty b a 1 0 0 0 0 0 0 0;treaty e f 50 0 0 0 0 0 0 0;treaty f a 51 0 0 0 0 0 0 0;treaty c d 0 0 0 0 0 0 0 0;ends d c 50"), "all(5)", 2);
    e.is(Given.book(six + "ends a b 0"), "all(5)", 0);
    e.is(Given.book(six + "year 5"), "all(4)", 0);
    e.is(Fixed.eightInARing(), "all(4)", 16);
  }

  private static void allOfSeveralTheLowest(Edge e) {
    e.says("Promise 40", "the FIRM with most STAFF (6), most CREDIT (7) (of several the lowest, both),");
    e.run(Given.book("land a 0 0 0;firm x a 0;firm y a 0;firm z a 0"), "all(6)", 0, "all(7)", 0, "staff(2, 1)", 0, "all(6)", 2, "staff(1, 1)", 0, "all(6)", 1, "staff(2, 99)", 1, "all(6)", 2,
        "staff(0, 99)", 0, "all(6)", 0);
    Given credits = Given.book("land a 0 100 0;land b 0 0 0;firm p a 0;firm q b 0;firm r b 0;firm s b 0;lends q p 0;lends r p 0;lends s q 0;lends s r 0;lends p s 0");
    e.run(credits, "all(7)", 0, "pay(1, 0, 3, 1000)", 900, "all(7)", 1, "lend(3, 1)", 0, "pay(1, 0, 3, 1000)", 900, "firm(1, 2)", 100, "firm(2, 2)", 100, "all(7)", 1, "pay(1, 0, 3, 10)", 9, "all(7)", 2);
    e.is(Fixed.eightInARing().and("staff(7, 1)"), "all(6)", 7);
    Given full = Given.book("land a 0 100 0;land b 0 0 0;land c 0 0 0;land d 0 0 0;land e 0 0 0;land f 0 0 0;firm p b 1;firm q a 0;firm r a 0;firm s a 0;firm t a 0;firm u a 0;firm v b 0;firm w a 0;lends p w 0;lends v w 0;lends p v 0")
        .and("pay(1, 7, 0, 1000)", "lend(0, 7)", "pay(1, 7, 0, 1000)");
    e.run(full, "firm(0, 3)", 1800, "firm(6, 2)", 100, "all(1)", 100, "all(2)", 200, "all(3)", 1800, "all(6)", 0, "all(7)", 6, "undo()", 2, "all(7)", 0, "staff(7, 1)", 0, "all(6)", 0, "all(1)", 0, "all(2)", 100);
  }

  private static void allLaterLinks(Edge e) {
    e.says("Promise 40", "LINKS that are there in a later YEAR first (8).");
    Given later = Given.book("land a 0 0 0;firm x a 0;firm y a 0;owns x y 5 50;owns y x 5 51;lends x y 99;lends y x 0");
    e.run(later, "all(8)", 2, "pass(1)", 51, "all(8)", 1, "lend(0, 1)", 0, "all(8)", 0);
    e.run(Given.book("land a 0 0 0;firm x a 0;firm y a 0;lends x y 99;year 98"), "all(8)", 1, "pass(1)", 99, "all(8)", 0);
  }

  private static void allHidden(Edge e) {
    e.says("Promise 40", "HIDDEN: no BOOK, no such what.");
    e.bounds(Fixed.busy(), "all(#)", 0, 51, 8, 0, HIDDEN);
    for (int what = -1; what < 10; what++) e.refused(Given.NEW, "all(" + what + ")", HIDDEN);
    e.refused(Given.NEW.and("script pass 1", "tape " + ONE), "all(0)", HIDDEN);
  }

  private static void countAsked(Edge e) {
    e.says("Promise 43", "0 FIRMS, 1 SCRIPTS, 2 bytes of the TAPE, 3 how long the LOG is, 4 ACTS that can be UNDONE, 5 LANDS, 6 LINKS.");
    e.run(Fixed.busy(), "count(0)", 3, "count(1)", 2, "count(2)", 10, "count(3)", 5, "count(4)", 5, "count(5)", 3, "count(6)", 6);
    e.run(Given.NEW.and("script pass 1", "tape land"), "count(0)", 0, "count(1)", 1, "count(2)", 4, "count(3)", 0, "count(4)", 0, "count(5)", 0, "count(6)", 0);
    Given acts = Given.book(ONE);
    for (int i = 1; i <= 61; i++) acts = acts.and("staff(0, " + i + ")");
    e.run(acts, "count(3)", 60, "count(4)", 40, "undo()", 39, "count(3)", 60, "count(4)", 39, "undo()", 38, "count(3)", 59);
    e.run(Fixed.eightInARing(), "count(0)", 8, "count(5)", 2, "count(6)", 16);
  }

  private static void countHidden(Edge e) {
    e.says("Promise 43", "HIDDEN for others.");
    e.bounds(Fixed.busy(), "count(#)", 0, 3, 6, 6, HIDDEN);
    e.bounds(Given.NEW, "count(#)", 0, 0, 6, 0, HIDDEN);
  }
}
