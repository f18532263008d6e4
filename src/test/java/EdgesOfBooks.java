/** Terms, ==== 1.: what a BOOK may tell, and where its FAULT is. */
final class EdgesOfBooks {
  private static final String TERMS = "Terms";
  private static final int NONE = Edge.NONE;
  private static final String ONE = "land a 0 0 0;firm x a 0";
  private static final String TWO = "land a 0 0 0;firm x a 0;firm y a 0;";
  private static final String LANDS = "land a 0 0 0;land b 0 0 0;firm x a 0;";
  private static final String[] WORDS = "land firm owns lends treaty ends year pay pass staff own lend".split(" ");

  static void all(Edge e) {
    linesWithSemicolonsBetween(e);
    anyOrderButForWhatMustBeToldAhead(e);
    landNumbers0To1000(e);
    firmStaff0To99(e);
    ownsShare1To100Since0To99(e);
    lendsSince(e);
    treatyNumbers(e);
    endsFrom(e);
    year0To99OnceAtMost50Without(e);
    sixLands(e);
    eightFirms(e);
    sixteenLinks(e);
    ofTheSameTwoFirmsEachSortOnce(e);
    twelveTreaties(e);
    oneFirmAtLeast(e);
    wordOf1To8Letters(e);
    numberGoesByItsWorth(e);
    nameNoneOfTheWords(e);
    nameToldOnce(e);
    toldByName(e);
    blanks(e);
    faultIsTheFirst(e);
    lengthIfTheTextEndsTooEarly(e);
    wordOrNameThatCantStandThere(e);
    ofTwoThatMustBeUnlikeTheSecond(e);
    numberOutOfBounds(e);
    oneMoreAtTheLinesWord(e);
    sameLinkAtTheSecondFirm(e);
    anyOtherByte(e);
  }

  private static void linesWithSemicolonsBetween(Edge e) {
    e.says(TERMS, "A BOOK is a TEXT: LINES with ; between");
    e.fault(0, ONE);
    e.fault(0, "land a 0 0 0 ^firm x a 0");
    e.fault(0, "land a 0 0 0^firm x a 0");
    e.fault(0, "land a 0 0 0;^;firm x a 0");
    e.fault(0, "^;" + ONE);
    e.fault(0, ONE + ";^");
    e.fault(0, ONE + ";^;");
    e.fault(0, ONE + ";year 5");
  }

  private static void anyOrderButForWhatMustBeToldAhead(Edge e) {
    e.says(TERMS, "each a WORD and what follows, in any order but for what must be told ahead:");
    e.fault(0, "year 7;" + ONE);
    e.fault(0, ONE + ";year 7");
    e.fault(0, ONE + ";land b 0 0 0;treaty a b 0 0 0 0 0 0 0 0;firm y b 0;lends x y 0;firm z b 1;owns z y 1 0;land c 0 0 0;ends a c 0");
    e.fault(0, "firm x ^a 0;land a 0 0 0");
    e.fault(0, ONE + ";owns x ^y 1 0;firm y a 0");
    e.fault(0, ONE + ";lends ^y x 0;firm y a 0");
    e.fault(0, ONE + ";treaty a ^b 0 0 0 0 0 0 0 0;land b 0 0 0");
    e.fault(0, ONE + ";ends ^b a 0;land b 0 0 0");
  }

  private static void landNumbers0To1000(Edge e) {
    e.says(TERMS, "'land' NAME DIVIDEND INTEREST TAX (0 .. 1000 each: thousandths)");
    e.number(0, "land a ", " 5 5;firm x a 0", 0, 1000);
    e.number(0, "land a 5 ", " 5;firm x a 0", 0, 1000);
    e.number(0, "land a 5 5 ", ";firm x a 0", 0, 1000);
    e.run(Given.book("land a 0 1000 7;land b 1000 8 0;firm x a 0"), "land(0, 0)", 0, "land(0, 1)", 1000, "land(0, 2)", 7,
        "land(1, 0)", 1000, "land(1, 1)", 8, "land(1, 2)", 0);
    e.run(Given.book("land a 1 0 0;land b 0 0 0;firm x a 0;firm y b 0;owns y x 9 0"), "best(0, 0, 1, 1000, 2)", 1);
  }

  private static void firmStaff0To99(Edge e) {
    e.says(TERMS, "'firm' NAME LAND STAFF (0 .. 99)");
    e.number(0, "land a 0 0 0;firm x a ", "", 0, 99);
    e.run(Given.book("land a 0 0 0;land b 0 0 0;firm x b 99;firm y a 0"), "firm(0, 0)", 1, "firm(0, 1)", 99, "firm(1, 0)", 0, "firm(1, 1)", 0);
  }

  private static void ownsShare1To100Since0To99(Edge e) {
    e.says(TERMS, "'owns' FIRM FIRM SHARE SINCE (the first one of the second one; 1 .. 100; 0 .. 99)");
    e.number(0, TWO + "owns x y ", " 0", 1, 100);
    e.number(0, TWO + "owns x y 1 ", "", 0, 99);
    e.run(Given.book(TWO + "owns y x 100 0"), "link(0, 0)", 0, "link(0, 1)", 1, "link(0, 2)", 0, "link(0, 3)", 100, "link(0, 4)", 0,
        "best(0, 0, 1, 5, 0)", 5, "best(0, 1, 0, 5, 0)", NONE);
    e.run(Given.book(TWO + "owns x y 1 99"), "link(0, 1)", 0, "link(0, 2)", 1, "link(0, 3)", 1, "link(0, 4)", 99);
  }

  private static void lendsSince(Edge e) {
    e.says(TERMS, "'lends' FIRM FIRM SINCE (the first one to the second one)");
    e.number(0, TWO + "lends x y ", "", 0, 99);
    e.fault(0, TWO + "lends x y 1 ^1");
    e.run(Given.book(TWO + "lends y x 0"), "link(0, 0)", 1, "link(0, 1)", 1, "link(0, 2)", 0, "link(0, 3)", 0, "link(0, 4)", 0,
        "best(1, 0, 1, 5, 0)", 5, "best(1, 1, 0, 5, 0)", NONE);
    e.is(Given.book(TWO + "lends y x 99"), "link(0, 4)", 99);
  }

  private static void treatyNumbers(Edge e) {
    e.says(TERMS, "'treaty' LAND LAND FROM LOW HIGH INTEREST SHARE YEARS STAFF OWNER (0 .. 99; 0 .. 1000 three times; 0 .. 100; 0 .. 20; 0 .. 99; 0 .. 2)");
    int[] most = {99, 1000, 1000, 1000, 100, 20, 99, 2};
    for (int i = 0; i < 8; i++) e.number(0, LANDS + "treaty a b " + "1 ".repeat(i), " 1".repeat(7 - i), 0, most[i]);
    e.fault(0, LANDS + "treaty a b 1 1 1 1 1 1 1 1 ^1");
    Given full = Given.book(LANDS + "treaty a b 99 1000 1000 1000 100 20 99 2;treaty b a 0 0 0 0 0 0 0 0");
    for (int what = 0; what < 8; what++) {
      e.is(full, "treaty(0, 1, 99, " + what + ")", most[what]);
      e.is(full, "treaty(0, 1, 98, " + what + ")", 0);
    }
  }

  private static void endsFrom(Edge e) {
    e.says(TERMS, "'ends' LAND LAND FROM");
    e.number(0, LANDS + "ends a b ", "", 0, 99);
    e.fault(0, LANDS + "ends a b 1 ^1");
    e.run(Given.book(LANDS + "treaty a b 0 5 5 5 5 5 5 0;ends b a 99"), "treaty(0, 1, 98, 1)", 5, "treaty(0, 1, 99, 1)", NONE);
    e.run(Given.book(LANDS + "treaty a b 0 5 5 5 5 5 5 0;ends b a 0"), "treaty(0, 1, 0, 1)", NONE);
  }

  private static void year0To99OnceAtMost50Without(Edge e) {
    e.says(TERMS, "'year' N (0 .. 99; once at most; 50 without)");
    e.number(0, ONE + ";year ", "", 0, 99);
    e.is(Given.book(ONE + ";year 0"), "all(0)", 0);
    e.is(Given.book("year 99;" + ONE), "all(0)", 99);
    e.fault(0, ONE + ";year 5;^year 5");
    e.fault(0, "year 5;" + ONE + ";^year 6");
    e.is(Given.book(ONE), "all(0)", 50);
    e.is(Given.book(ONE + ";year 7").and("book " + ONE), "all(0)", 50);
    e.is(Given.book(ONE + ";year 7").and("book year 8;" + ONE), "all(0)", 8);
  }

  private static String lands(int n) {
    StringBuilder b = new StringBuilder();
    for (int i = 0; i < n; i++) b.append("land ").append((char) ('a' + i)).append(" 0 0 0;");
    return b.toString();
  }

  private static String firms(int n) {
    StringBuilder b = new StringBuilder();
    for (int i = 0; i < n; i++) b.append("firm ").append((char) ('p' + i)).append(" a 0;");
    return b.toString();
  }

  private static void sixLands(Edge e) {
    e.says(TERMS, "6 LANDS");
    e.fault(0, lands(6) + "firm p f 0");
    e.is(Given.book(lands(6) + "firm p f 0"), "count(5)", 6);
    e.is(Given.book(lands(6) + "firm p f 0"), "firm(0, 0)", 5);
    e.fault(0, lands(6) + "^land g 0 0 0;firm p a 0");
    e.fault(0, lands(6) + "firm p f 0;^land g 0 0 0");
  }

  private static void eightFirms(Edge e) {
    e.says(TERMS, "8 FIRMS");
    e.fault(0, lands(1) + firms(8) + "year 5");
    e.is(Given.NEW.and("tape " + lands(1) + firms(8) + "year 5"), "text(0)", 8);
    e.fault(0, lands(1) + firms(8) + "^firm x a 0");
    e.fault(0, lands(1) + firms(8) + "year 5;^firm x a 0");
  }

  /** n LINKS among five FIRMS: each second one is a loan, if both sorts are wanted. */
  private static String links(int n, String sorts) {
    StringBuilder b = new StringBuilder(lands(1) + firms(5));
    int told = 0;
    for (char f = 'p'; f < 'u'; f++) for (char g = 'p'; g < 'u'; g++) if (f != g && told < n) {
      boolean loan = sorts.equals("lends") || sorts.equals("both") && told % 2 == 1;
      b.append(loan ? "lends " : "owns ").append(f).append(' ').append(g).append(loan ? " 0;" : " 1 0;");
      told++;
    }
    return b.toString();
  }

  private static void sixteenLinks(Edge e) {
    e.says(TERMS, "16 LINKS (owns, lends;");
    for (String sorts : new String[] {"owns", "lends", "both"}) {
      e.fault(0, links(16, sorts) + "year 5");
      e.is(Given.book(links(16, sorts) + "year 5"), "count(6)", 16);
      e.fault(0, links(16, sorts) + "^owns t s 1 0");
      e.fault(0, links(16, sorts) + "^lends t s 0");
      e.fault(0, links(15, sorts) + "owns t s 1 0");
      e.fault(0, links(15, sorts) + "lends t s 0");
    }
  }

  private static void ofTheSameTwoFirmsEachSortOnce(Edge e) {
    e.says(TERMS, "of the same two FIRMS in this order each sort once)");
    e.fault(0, TWO + "owns x y 1 0;lends x y 0;owns y x 1 0;lends y x 0");
    e.fault(0, TWO + "owns x y 1 0;owns x ^y 2 1");
    e.fault(0, TWO + "lends x y 0;lends x ^y 1");
    e.fault(0, TWO + "owns x y 1 0;owns y x 1 0;owns y ^x 1 0");
    e.fault(0, TWO + "lends x y 0;owns x y 1 0;lends y x 0;lends x ^y 0");
  }

  private static void twelveTreaties(Edge e) {
    e.says(TERMS, "12 TREATIES (treaty, ends) at most");
    String one = "treaty a b 0 0 0 0 0 0 0 0;";
    String end = "ends b a 0;";
    for (String twelve : new String[] {one.repeat(12), end.repeat(12), (one + end).repeat(6)}) {
      e.fault(0, LANDS + twelve + "year 5");
      e.fault(0, LANDS + twelve + "^treaty a b 0 0 0 0 0 0 0 0");
      e.fault(0, LANDS + twelve + "^ends a b 0");
    }
    e.fault(0, LANDS + one.repeat(11) + "ends a b 0");
    e.fault(0, LANDS + end.repeat(11) + "treaty a b 0 0 0 0 0 0 0 0");
    e.run(Given.book(LANDS + end.repeat(11) + "treaty a b 0 7 0 0 0 0 0 0"), "treaty(0, 1, 0, 1)", 7);
  }

  private static void oneFirmAtLeast(Edge e) {
    e.says(TERMS, "one FIRM at least.");
    e.fault(0, "land a 0 0 0^");
    e.fault(0, "land a 0 0 0  ^");
    e.fault(0, "year 5^");
    e.fault(0, lands(6) + "year 9;ends a b 0^");
    e.fault(0, "^");
    e.fault(0, "  ^");
    e.is(Given.NEW.and("tape " + ONE), "text(0)", 1);
  }

  private static void wordOf1To8Letters(Edge e) {
    e.says(TERMS, "A WORD is letters (a to z), as many as stand one behind another, 1 to 8;");
    e.fault(0, "land abcdefgh 0 0 0;firm stuvwxyz abcdefgh 0");
    e.fault(0, "land ^abcdefghi 0 0 0;firm x abcdefghi 0");
    e.fault(0, "land abcdefgh 0 0 0;firm x ^abcdefghi 0");
    e.fault(0, "land abcdefgh 0 0 0;firm ^abcdefgha abcdefgh 0");
    e.fault(0, "land ^" + "a".repeat(300) + " 0 0 0");
    e.fault(0, "^landlandl a 0 0 0");
    e.fault(0, "^landa 0 0 0");
    e.fault(0, "land a ^b 0 0 0");
    e.fault(0, "land ^5 0 0 0");
    e.fault(0, "land ^; 0 0 0");
    e.fault(0, "^Land a 0 0 0");
    e.fault(0, "^lanD a 0 0 0");
    e.fault(0, "land ^A 0 0 0");
    e.fault(0, "land z 0 0 0;firm a z 0");
    e.faultAt(0, "land ` 0 0 0", 5);
    e.faultAt(0, "land { 0 0 0", 5);
    Given eighth = Given.book("land abcdefgh 0 0 0;land abcdefgi 0 0 0;firm x abcdefgi 0");
    e.run(eighth, "firm(0, 0)", 1, "name(0, 0, 7)", (int) 'h', "name(0, 1, 7)", (int) 'i');
    e.run(Given.book("land abc 0 0 0;land ab 0 0 0;firm x ab 0"), "firm(0, 0)", 1, "name(0, 1, 1)", (int) 'b', "name(0, 1, 2)", NONE);
  }

  private static void numberGoesByItsWorth(Edge e) {
    e.says(TERMS, "a NUMBER is digits, as many as stand one behind another (it goes by what it is worth).");
    e.run(Given.book("land a 00 0000000000001000 " + "0".repeat(200) + "5;firm x a 0099"), "land(0, 0)", 0, "land(0, 1)", 1000, "land(0, 2)", 5, "firm(0, 1)", 99);
    e.fault(0, "land a ^0001001 0 0;firm x a 0");
    e.fault(0, "land a ^10000000000000 0 0;firm x a 0");
    e.fault(0, "land a ^2147483648 0 0;firm x a 0");
    e.fault(0, "land a ^4294967296 0 0;firm x a 0");
    e.fault(0, "land a ^4294967301 0 0;firm x a 0");
    e.fault(0, "land a ^18446744073709551616 0 0;firm x a 0");
    e.fault(0, "land a ^18446744073709551621 0 0;firm x a 0");
    e.fault(0, "land a ^" + "9".repeat(300) + " 0 0");
    e.fault(0, "land a 1 2 3 ^4;firm x a 0");
    e.fault(0, "land a 123 ^;firm x a 0");
    e.fault(0, "land a ^/ 0 0");
    e.fault(0, "land a ^: 0 0");
    e.fault(0, "land a 0^/ 0 0");
    e.fault(0, "land a 0^: 0 0");
    e.fault(0, "land a ^-1 0 0");
    e.fault(0, "land a ^+1 0 0");
    e.fault(0, "land a 1^.5 0 0");
  }

  private static void nameNoneOfTheWords(Edge e) {
    e.says(TERMS, "A NAME is a WORD none of those told here,");
    for (String word : WORDS) {
      e.fault(0, "land ^" + word + " 0 0 0;firm x a 0");
      e.fault(0, "land a 0 0 0;firm ^" + word + " a 0");
      e.fault(0, "land " + word + "q 0 0 0;firm q" + word + " " + word + "q 0");
    }
    e.fault(0, "land lan 0 0 0;firm fir lan 0;firm yea lan 0;firm pa lan 0;firm treat lan 0;firm end lan 0;firm sta lan 0");
  }

  private static void nameToldOnce(Edge e) {
    e.says(TERMS, "told once in a BOOK;");
    e.fault(0, "land a 0 0 0;land ^a 0 0 0;firm x a 0");
    e.fault(0, "land a 0 0 0;firm x a 0;firm ^x a 0");
    e.fault(0, "land a 0 0 0;firm ^a a 0");
    e.fault(0, "land a 0 0 0;firm x a 0;land ^x 0 0 0");
    e.fault(0, lands(5) + "land ^e 0 0 0;firm x a 0");
    e.fault(0, lands(1) + firms(7) + "firm ^v a 0");
    e.is(Given.book(ONE).and("tape " + ONE), "text(0)", 1);
  }

  private static void toldByName(Edge e) {
    e.says(TERMS, "LAND, FIRM in a BOOK are told by NAME, in a SCRIPT by number, as they came.");
    e.fault(0, "land a 0 0 0;firm x ^0 0");
    e.fault(0, TWO + "owns ^0 1 5 5");
    e.fault(1, "staff ^x 5");
    Given g = Given.book("land b 1 0 0;land a 2 0 0;firm y a 3;land c 3 0 0;firm x b 4");
    e.run(g, "name(0, 0, 0)", (int) 'b', "name(0, 1, 0)", (int) 'a', "name(0, 2, 0)", (int) 'c', "name(1, 0, 0)", (int) 'y', "name(1, 1, 0)", (int) 'x', "firm(0, 0)", 1, "firm(1, 0)", 0);
    e.run(g.and("script staff 1 9"), "perform(0)", 1, "firm(0, 1)", 3, "firm(1, 1)", 9);
  }

  private static void blanks(Edge e) {
    e.says(TERMS, "Blanks (32) may stand ahead of and behind all these, and ;.");
    e.fault(0, "   land   a   0   0   0   ;   firm   x   a   0   ;   year   5   ");
    e.fault(0, "land a0 0 0;firm x a0;year5");
    e.fault(0, " ".repeat(377) + ONE);
    e.fault(0, ONE + " ".repeat(377));
    e.fault(0, " ^;" + ONE);
    e.fault(0, ONE + " ; ^");
    e.fault(0, "^la nd a 0 0 0");
    e.fault(0, "land a 0 0 0;firm x a 9 ^9");
    e.fault(1, "  pass  5  ;  lend  1  2  ");
    e.fault(1, "pass5;lend1 2");
    e.fault(0, "^\tland a 0 0 0");
    e.fault(0, "land^\na 0 0 0");
    e.faultAt(0, "land" + (char) 31 + "a 0 0 0", 4);
    e.faultAt(0, "land" + (char) 33 + "a 0 0 0", 4);
    e.faultAt(0, "land" + (char) 160 + "a 0 0 0", 4);
  }

  private static void faultIsTheFirst(Edge e) {
    e.says(TERMS, "FAULT: where the first part begins that can't be");
    e.fault(0, "land a ^1001 1001 1001;firm a b 100;owns");
    e.fault(0, "land a 0 0 0;firm x a ^100;firm x a 0;owns x x 0");
    e.fault(0, "land a 0 0 0;firm ^land b 100");
    e.fault(0, "land a 0 0 0;firm x   ^b 100");
    e.fault(0, TWO + "owns x y 1 0;owns x ^y 0 100");
    e.fault(0, TWO + "owns x ^x 0 100");
    e.fault(0, LANDS + "treaty a b 0 0 0 0 0 ^21 100 3");
    e.fault(0, "year 1;^year 100");
  }

  private static void lengthIfTheTextEndsTooEarly(Edge e) {
    e.says(TERMS, "(the length, if the TEXT ends too early, or without a FIRM):");
    String text = "land a 10 20 30;firm x a 5;year 7";
    int[] where = {0, 0, 0, 0, 4, 5, 6, 7, 8, 9, 10, 11, 12, 13, 14, 15, 16, 16, 16, 16, 20, 21, 22, 23, 24, 25, NONE, 27, 27, 27, 27, 31, 32, NONE};
    e.due("so many", where.length, text.length() + 1);
    for (int n = text.length(); n >= 0; n--) e.faultAt(0, text.substring(0, n), where[n]);
    for (String cut : new String[] {"owns", "owns x", "owns x y", "owns x y 1", "lends", "lends x", "lends x y", "firm", "firm z", "firm z a", "land", "land q", "land q 1 1", "year"}) {
      e.fault(0, TWO + cut + "^");
      e.fault(0, TWO + cut + "  ^");
      e.fault(0, TWO + cut + "^;year 1");
    }
    for (int numbers = 0; numbers < 8; numbers++) e.fault(0, LANDS + "treaty a b" + " 1".repeat(numbers) + "^");
    e.fault(0, LANDS + "treaty a^");
    e.fault(0, LANDS + "treaty^");
    for (String cut : new String[] {"ends", "ends a", "ends a b"}) e.fault(0, LANDS + cut + "^");
  }

  private static void wordOrNameThatCantStandThere(Edge e) {
    e.says(TERMS, "a WORD, NAME that can't stand there, is not told or was");
    for (String word : "pay pass staff own lend lands firms own a x".split(" ")) e.fault(0, ONE + ";^" + word + " 0 0 0 0");
    e.fault(0, TWO + "firm z ^x 0");
    e.fault(0, TWO + "firm z ^z 0");
    e.fault(0, TWO + "firm z ^land 0");
    e.fault(0, TWO + "owns ^a x 1 0");
    e.fault(0, TWO + "owns x ^a 1 0");
    e.fault(0, TWO + "owns ^z x 1 0");
    e.fault(0, TWO + "owns x ^z 1 0");
    e.fault(0, TWO + "lends ^a x 0");
    e.fault(0, TWO + "lends x ^z 0");
    e.fault(0, LANDS + "treaty ^x b 0 0 0 0 0 0 0 0");
    e.fault(0, LANDS + "treaty a ^x 0 0 0 0 0 0 0 0");
    e.fault(0, LANDS + "treaty a ^c 0 0 0 0 0 0 0 0");
    e.fault(0, LANDS + "ends ^c a 0");
    e.fault(0, LANDS + "ends a ^x 0");
    e.fault(0, LANDS + "land ^b 0 0 0");
  }

  private static void ofTwoThatMustBeUnlikeTheSecond(Edge e) {
    e.says(TERMS, "(of two that must be unlike the second one)");
    e.fault(0, TWO + "owns y ^y 1 0");
    e.fault(0, TWO + "lends x ^x 0");
    e.fault(0, LANDS + "treaty b ^b 0 0 0 0 0 0 0 0");
    e.fault(0, LANDS + "ends a ^a 0");
  }

  private static void numberOutOfBounds(Edge e) {
    e.says(TERMS, "a NUMBER out of bounds,");
    e.fault(0, "land a   ^1001 0 0");
    e.fault(0, TWO + "owns x y ^00 5");
    e.fault(0, TWO + "owns x y ^0101 5");
    e.fault(1, "pass ^0010000");
  }

  private static void oneMoreAtTheLinesWord(Edge e) {
    e.says(TERMS, "one more LAND, FIRM, LINK, TREATY than there may be, 'year' again (at the LINE's WORD),");
    e.fault(0, lands(6) + "  ^land a 1001");
    e.fault(0, lands(6) + "^land");
    e.fault(0, lands(1) + firms(8) + " ^firm p q 100");
    e.fault(0, lands(1) + firms(8) + "^firm");
    e.fault(0, links(16, "both") + " ^owns p p 0 100");
    e.fault(0, links(16, "both") + "^lends p r 0");
    e.fault(0, LANDS + "ends a b 0;".repeat(12) + " ^ends a a 100");
    e.fault(0, LANDS + "ends a b 0;".repeat(12) + "^treaty");
    e.fault(0, ONE + ";year 0; ^year 0");
    e.fault(0, ONE + ";year 0;^year");
  }

  private static void sameLinkAtTheSecondFirm(Edge e) {
    e.says(TERMS, "the same LINK again (at the second FIRM),");
    e.fault(0, TWO + "owns x y 1 0;owns x   ^y 1 0");
    e.fault(0, TWO + "owns x y 1 0;owns x ^y");
    e.fault(0, TWO + "lends y x 0;lends y   ^x 100");
    e.fault(0, TWO + "owns x y 1 0;lends x y 0");
  }

  /** Each byte at places where but a few may stand: at the start, between two parts, behind a LINE. */
  private static void anyOtherByte(Edge e) {
    e.says(TERMS, "any other byte.");
    for (int b = 1; b < 256; b++) {
      char c = (char) b;
      boolean letter = c >= 'a' && c <= 'z';
      boolean digit = c >= '0' && c <= '9';
      e.is(tape(c + ONE), "fault(0)", c == ' ' ? NONE : 0);
      e.is(tape("land" + c + "q 0 0 0;firm x q 0"), "fault(0)", c == ' ' ? NONE : letter ? 0 : 4);
      e.is(tape("land q" + c + "0 0 0;firm z q" + c + "0"), "fault(0)", c == ' ' || digit || letter ? NONE : 6);
      e.is(tape(ONE + c), "fault(0)", c == ' ' || digit ? NONE : c == ';' ? 24 : 23);
      e.is(tape(ONE + " " + c), "fault(0)", c == ' ' ? NONE : c == ';' ? 25 : 24);
      e.is(tape("pass" + c + "5"), "fault(1)", c == ' ' || digit ? NONE : letter ? 0 : 4);
      e.is(tape("pass 5" + c), "fault(1)", c == ' ' || digit ? NONE : c == ';' ? 7 : 6);
    }
    e.faultAt(0, ONE + (char) 255, 23);
    e.faultAt(0, ONE + (char) 1, 23);
  }

  private static Given tape(String text) {
    return Given.NEW.and("tape " + text);
  }
}
