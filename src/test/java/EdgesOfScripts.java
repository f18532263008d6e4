/** Terms, ==== 1.: what a SCRIPT may tell, and where its FAULT is; promises 37 to 39. */
final class EdgesOfScripts {
  private static final int NONE = Edge.NONE;
  private static final int HIDDEN = Edge.HIDDEN;
  private static final String TWELVE = "pass 1" + ";pass 1".repeat(11);

  static void all(Edge e) {
    fourAtMost(e);
    stepsOneToTwelve(e);
    stepsAndTheirNumbers(e);
    semicolonAheadOfThe13th(e);
    whatAStepTellsThatCantBe(e);
    stepAsked(e);
    stepHasFewerNumbers(e);
    stepHidden(e);
    runTerm(e);
    runAsked(e);
    runHidden(e);
    doTerm(e);
    performAsked(e);
    performNone(e);
  }

  private static void fourAtMost(Edge e) {
    e.says("Terms", "A SCRIPT (4 at most) is a TEXT: STEPS with ; between,");
    Given three = Given.NEW.times(3, "script pass 1");
    e.is(three.and("tape pass 2"), "text(1)", 3);
    e.refused(Given.NEW.times(4, "script pass 1").and("tape pass 2"), "text(1)", NONE);
    e.fault(1, "pass 1 ^pass 1");
    e.fault(1, "pass 1;^;pass 1");
    e.fault(1, "^;pass 1");
    e.fault(1, "pass 1;^");
    e.fault(1, "pass 1;pass 1");
  }

  private static void stepsOneToTwelve(Edge e) {
    e.says("Terms", "1 to 12:");
    e.fault(1, "^");
    e.fault(1, "  ^");
    e.fault(1, "pass 1");
    e.fault(1, TWELVE);
    e.fault(1, TWELVE + "  ");
    e.fault(1, TWELVE + "^;pass 1");
    e.run(Given.NEW.and("script " + TWELVE), "step(0, 11, 0)", 1, "step(0, 12, 0)", HIDDEN);
    e.run(Given.NEW.and("script pass 1"), "step(0, 0, 0)", 1, "step(0, 1, 0)", HIDDEN);
  }

  private static void stepsAndTheirNumbers(Edge e) {
    e.says("Terms", "'pay' SORT FROM TO AMOUNT, 'pass' N, 'staff' FIRM N, 'own' FIRM FIRM SHARE, 'lend' FIRM FIRM (numbers; 0 .. 9999).");
    String[] words = {"pay", "pass", "staff", "own", "lend"};
    int[] numbers = {4, 1, 2, 3, 2};
    for (int w = 0; w < 5; w++) {
      for (int i = 0; i < numbers[w]; i++) {
        String ahead = words[w] + " 1".repeat(i);
        e.number(1, ahead + " ", " 1".repeat(numbers[w] - 1 - i), 0, 9999);
        e.fault(1, ahead + "^");
        e.fault(1, ahead + "^;pass 1");
        e.fault(1, ahead + " ^x");
      }
      String whole = words[w] + " 9999".repeat(numbers[w]);
      e.fault(1, whole + " ^1");
      Used u = Given.NEW.and("script " + whole).make();
      e.due(whole, u.call("step(0, 0, 0)"), w);
      for (int i = 1; i <= 4; i++) e.due(whole + ", number " + i, u.call("step(0, 0, " + i + ")"), i <= numbers[w] ? 9999 : NONE);
    }
    for (String word : "land firm owns lends treaty ends year payer pas x".split(" ")) e.fault(1, "^" + word + " 1 1 1 1");
    e.fault(1, "^passpasspass 1");
    e.fault(1, "pay ^-1 0 0 0");
  }

  private static void semicolonAheadOfThe13th(Edge e) {
    e.says("Terms", "the ; ahead of a 13th STEP,");
    e.fault(1, TWELVE + "^;pass 1");
    e.fault(1, TWELVE + "   ^;   pass 1");
    e.fault(1, TWELVE + "^;pass 10000;x");
    e.fault(1, TWELVE + "^;");
    e.fault(1, TWELVE + " ^pass 1");
    e.fault(1, TWELVE.substring(7) + ";pass 10");
  }

  private static void whatAStepTellsThatCantBe(Edge e) {
    e.says("Terms", "(What a STEP tells that can't be is no FAULT.)");
    String steps = "pay 2 9 9 0;pass 0;pass 21;staff 8 100;own 1 1 101;lend 9999 9999";
    e.fault(1, steps);
    e.run(Given.book(Fixed.BOOK).and("script " + steps), "fault(1)", 0, "run(0, 0)", 0, "perform(0)", 0);
  }

  private static Given scripts() {
    return Fixed.busy();
  }

  private static void stepAsked(Edge e) {
    e.says("Promise 37", "A STEP of a SCRIPT: 0 what (0 pay, 1 pass, 2 staff, 3 own, 4 lend), 1 to 4 its numbers");
    Given g = Given.NEW.and("script pay 1 2 3 4;pass 5;staff 6 7;own 8 9 10;lend 11 12");
    int[][] due = {{0, 1, 2, 3, 4}, {1, 5}, {2, 6, 7}, {3, 8, 9, 10}, {4, 11, 12}};
    for (int i = 0; i < 5; i++) for (int what = 0; what < due[i].length; what++) e.is(g, "step(0, " + i + ", " + what + ")", due[i][what]);
  }

  private static void stepHasFewerNumbers(Edge e) {
    e.says("Promise 37", "(NONE: there are fewer).");
    Given g = Given.NEW.and("script pay 0 0 0 0;pass 0;staff 0 0;own 0 0 0;lend 0 0");
    int[] numbers = {4, 1, 2, 3, 2};
    for (int i = 0; i < 5; i++) {
      e.is(g, "step(0, " + i + ", " + numbers[i] + ")", 0);
      if (numbers[i] < 4) e.refused(g, "step(0, " + i + ", " + (numbers[i] + 1) + ")", NONE);
      if (numbers[i] < 4) e.is(g, "step(0, " + i + ", 4)", NONE);
    }
  }

  private static void stepHidden(Edge e) {
    e.says("Promise 37", "HIDDEN: no such ones.");
    Given g = scripts();
    e.bounds(g, "step(#, 0, 0)", 0, 1, 1, 2, HIDDEN);
    e.bounds(g, "step(0, #, 0)", 0, 1, 1, 0, HIDDEN);
    e.bounds(g, "step(0, 1, #)", 0, 0, 4, 5, HIDDEN);
    e.refused(g, "step(0, 0, 5)", HIDDEN);
    Given four = Given.NEW.times(4, "script " + TWELVE);
    e.bounds(four, "step(#, 11, 1)", 0, 1, 3, 1, HIDDEN);
    e.bounds(four, "step(3, #, 1)", 0, 1, 11, 1, HIDDEN);
    e.refused(Given.NEW, "step(0, 0, 0)", HIDDEN);
  }

  /** Interest x, y, z: 300 kept back of 1000, CREDIT 100 of y then. */
  private static Given loans(String script) {
    return Given.book(Fixed.LOANS).and("script " + script);
  }

  private static void runTerm(Edge e) {
    e.says("Terms", "RUN of a SCRIPT: behind how many STEPS the first is that can't be; TAKEN of all LANDS behind these.");
    e.run(loans("pass 0;pay 1 0 2 1000"), "run(0, 0)", 0, "run(0, 1)", 0);
    e.run(loans("pay 1 0 2 1000;pass 0;pay 1 0 2 1000"), "run(0, 0)", 1, "run(0, 1)", 300);
    e.run(loans("pay 1 0 2 1000;pay 1 0 2 1000;pass 21"), "run(0, 0)", 2, "run(0, 1)", 600);
    e.run(loans("pay 1 0 2 1000;pay 1 0 2 1000;pass 20"), "run(0, 0)", NONE, "run(0, 1)", 600);
    e.run(loans("pass 10;pay 1 0 2 1000"), "run(0, 0)", NONE, "run(0, 1)", 200);
    e.run(loans("pay 1 0 2 1000").and("pay(1, 0, 2, 1000)"), "run(0, 0)", NONE, "run(0, 1)", 600, "all(2)", 300);
    e.run(loans("lend 1 0;pay 1 0 2 1000"), "run(0, 0)", 1, "run(0, 1)", 0, "count(6)", 2);
    e.run(loans("lend 1 0;lend 1 0;pay 1 0 2 1000"), "run(0, 0)", NONE, "run(0, 1)", 300);
    Given untouched = loans("pay 1 0 2 1000;pass 5;staff 1 7;own 2 1 30;lend 2 1");
    e.refused(untouched, "run(0, 0)", NONE);
    e.refused(untouched, "run(0, 1)", 300);
  }

  private static void runAsked(Edge e) {
    e.says("Promise 38", "RUN: behind how many (0; NONE: all can be), TAKEN of all (1).");
    e.run(loans(TWELVE), "run(0, 0)", NONE, "run(0, 1)", 0);
    e.run(loans("pass 20;".repeat(7) + "pass 9;pass 1"), "run(0, 0)", 8, "all(0)", 50);
    e.run(loans("pass 20;".repeat(7) + "pass 9"), "run(0, 0)", NONE);
    e.run(loans("pass 0"), "run(0, 0)", 0);
  }

  private static void runHidden(Edge e) {
    e.says("Promise 38", "HIDDEN: no such SCRIPT, no BOOK, no such what.");
    Given g = scripts();
    e.bounds(g, "run(#, 0)", 0, NONE, 1, NONE, HIDDEN);
    e.bounds(g, "run(0, #)", 0, NONE, 1, 118, HIDDEN);
    e.refused(Given.NEW.and("script pass 1"), "run(0, 0)", HIDDEN);
    e.refused(Given.NEW.and("script pass 1"), "run(0, 1)", HIDDEN);
    e.refused(Given.book(Fixed.BOOK), "run(0, 0)", HIDDEN);
  }

  private static void doTerm(Edge e) {
    e.says("Terms", "DO: its STEPS as ACTS, up to there (no STATUS).");
    Given g = loans("pay 1 0 2 1000;pass 5;staff 1 7;own 2 1 30;lend 2 1;pass 0;staff 1 8");
    e.run(g, "perform(0)", 5, "all(0)", 55, "firm(1, 1)", 7, "firm(1, 2)", 100, "link(1, 3)", 30, "count(6)", 2, "count(3)", 5, "count(4)", 5,
        "status(0)", 0, "status(1)", 0, "status(2)", 0, "status(3)", 0,
        "log(4, 0)", 0, "log(3, 0)", 1, "log(2, 0)", 2, "log(1, 0)", 3, "log(0, 0)", 4,
        "undo()", 4, "count(6)", 3, "undo()", 3, "undo()", 2, "firm(1, 1)", 0, "undo()", 1, "all(0)", 50, "undo()", 0, "firm(1, 2)", 0, "undo()", NONE);
    for (String step : new String[] {"pay 1 0 3 5", "pay 2 0 2 5", "pay 1 0 2 0", "pay 1 0 0 5", "pay 1 2 0 5", "pass 21", "staff 3 5", "staff 0 100", "staff 0 0",
        "own 0 3 5", "own 0 1 101", "own 1 1 5", "own 0 1 0", "lend 3 0", "lend 0 0"}) {
      e.refused(loans(step), "perform(0)", 0);
    }
    Given full = Fixed.eightInARing();
    e.refused(full.and("script own 0 4 5"), "perform(0)", 0);
    e.refused(full.and("script lend 0 4"), "perform(0)", 0);
    e.run(full.and("script own 1 0 0;own 0 4 5;lend 0 4"), "run(0, 0)", 2, "perform(0)", 2, "count(6)", 16, "status(3)", 0);
    e.run(full.and("script pay 0 0 1 9999;pay 1 0 5 1;pay 1 0 6 1"), "run(0, 0)", 2, "perform(0)", 2, "all(3)", 10000, "status(2)", 0);
  }

  private static void performAsked(Edge e) {
    e.says("Promise 39", "DO: how many STEPS were done.");
    e.run(loans(TWELVE), "perform(0)", 12, "all(0)", 62, "perform(0)", 12, "all(0)", 74);
    e.run(loans("pass 20;".repeat(7) + "pass 9;pass 1"), "perform(0)", 8, "all(0)", 199, "status(3)", 0, "perform(0)", 0);
    e.run(loans("lend 1 0;pay 1 0 2 1000"), "perform(0)", 1, "count(6)", 1, "perform(0)", 2, "all(2)", 300);
    e.run(loans("staff 0 0"), "perform(0)", 0, "status(2)", 0);
  }

  private static void performNone(Edge e) {
    e.says("Promise 39", "NONE: no such SCRIPT, no BOOK.");
    Given g = scripts();
    e.bounds(g, "perform(#)", 0, 2, 1, 1, NONE);
    e.refused(Given.NEW.and("script pass 1"), "perform(0)", NONE);
    e.refused(Given.NEW, "perform(0)", NONE);
    e.refused(Given.book(Fixed.BOOK), "perform(0)", NONE);
  }
}
