/** BOOKS and objects that several tests begin with. */
final class Fixed {
  /** x in a, y in b, z in c: dividends by two WAYS (882 of 1000 by y, 880 at once), interest by one (970). */
  static final String BOOK = "land a 100 50 200;land b 0 0 0;land c 150 100 300;firm x a 5;firm y b 3;firm z c 9;"
      + "owns y x 30 10;owns z y 100 40;owns z x 10 20;lends z x 45;"
      + "treaty a c 0 50 120 30 25 5 2 0;treaty a b 30 0 40 0 10 2 4 0;treaty b c 0 20 20 10 0 0 0 1";
  /** Interest x, y, z: 300 by 1000 kept back, TAX of y 200: CREDIT grows, until a TREATY of YEAR 60 with 50. */
  static final String LOANS = "land a 0 300 0;land b 0 0 200;firm x a 0;firm y b 0;firm z b 0;lends y x 0;lends z y 0;treaty a b 60 0 0 50 0 0 0 0";

  private static final Given BUSY = Given.book(BOOK).and("script pass 2;pay 0 0 2 5", "script staff 0 7", "pay(0, 0, 2, 1000)", "pass(1)", "staff(1, 2)", "image()",
      "own(0, 1, 40)", "lend(1, 0)", "!pay(0, 0, 9, 1)", "!pass(0)", "!staff(1, 2)", "tape land q 1 2");
  private static final Given RING = Given.book(ring());

  private Fixed() { }

  /** BOOK with something of all that there is: SCRIPTS, ACTS, an IMAGE, STATUS, bytes on the TAPE; YEAR 51. */
  static Given busy() {
    return BUSY;
  }

  /** Eight FIRMS in one LAND of two, each pays the next one, the last one the first; of both sorts, nothing is taken. */
  static Given eightInARing() {
    return RING;
  }

  private static String ring() {
    StringBuilder b = new StringBuilder("land a 0 0 0;land b 0 0 0");
    for (int i = 0; i < 8; i++) b.append(";firm ").append(firm(i)).append(" a 0");
    for (int i = 0; i < 8; i++) b.append(";lends ").append(firm(i + 1)).append(' ').append(firm(i)).append(" 0");
    for (int i = 0; i < 8; i++) b.append(";owns ").append(firm(i + 1)).append(' ').append(firm(i)).append(" 50 0");
    return b.toString();
  }

  private static char firm(int i) {
    return (char) ('p' + i % 8);
  }
}
