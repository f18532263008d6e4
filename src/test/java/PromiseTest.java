/** Each promise by hand: ordinary calls, the edges that the document names, and calls that are refused. */
public final class PromiseTest {
  private static final Check C = new Check();
  private static final int NONE = TreatyRouter.NONE;
  private static final int HIDDEN = TreatyRouter.HIDDEN;

  /** x in a, y in b, z in c: dividends by two WAYS, interest by one. */
  private static final String BOOK = "land a 100 50 200;land b 0 0 0;land c 150 100 300;firm x a 5;firm y b 3;firm z c 9;"
      + "owns y x 30 10;owns z y 100 40;owns z x 10 20;lends z x 45;"
      + "treaty a c 0 50 120 30 25 5 2 0;treaty a b 30 0 40 0 10 2 4 0;treaty b c 0 20 20 10 0 0 0 1";
  /** Interest x, y, z; 300 kept back, tax of y 200: CREDIT grows, until a TREATY of YEAR 60. */
  private static final String LOANS = "land a 0 300 0;land b 0 0 200;firm x a 0;firm y b 0;firm z b 0;lends y x 0;lends z y 0;"
      + "treaty a b 60 0 0 50 0 0 0 0";

  public static void main(String[] args) {
    aNewObject();
    tape();
    endOfTape();
    faultsOfBooks();
    faultsOfNumbersAndNames();
    faultsOfTooMuch();
    faultsOfScripts();
    textsTaken();
    landsFirmsNames();
    linksAndTreaties();
    hops();
    ownersOfHops();
    bestWays();
    bestOfLikeWays();
    fourStops();
    taxAndCredit();
    stopsAndSpelling();
    paying();
    passing();
    staffing();
    owning();
    lending();
    sixteenLinks();
    drawnYears();
    undoing();
    logging();
    otherYears();
    hiring();
    withoutAndKey();
    lapsing();
    loopsLeastDirect();
    takeTwiceGross();
    worthOfLinks();
    scripts();
    fullBook();
    allAndCount();
    images();
    C.finish("PromiseTest");
  }

  private static void aNewObject() {
    TreatyRouter x = new TreatyRouter();
    for (int what = 0; what < 7; what++) C.due("new: count " + what, x.count(what), 0);
    for (int what = 0; what < 4; what++) C.due("new: status " + what, x.status(what), 0);
    C.due("new: all(0)", x.all(0), HIDDEN);
    C.due("new: firm", Check.firm(x, 0, 0), -77);
    C.due("new: pass", x.pass(1), NONE);
    C.due("new: status(0)", x.status(0), 1);
    C.due("new: pass(0): no BOOK comes first", x.pass(0), NONE);
    C.due("new: status(0)", x.status(0), 2);
    C.due("new: status(1)", x.status(1), 0);
    C.due("new: years", x.years(1, 1), NONE);
    C.due("new: years is no ACT", x.status(0), 2);
  }

  private static void tape() {
    TreatyRouter x = new TreatyRouter();
    C.due("feed of zeros", x.feed(0, 0, 0, 0, 0), 0);
    C.due("feed, highest byte first, no zeros", x.feed(0x00790065, 0x61720000, 0, 0x20000000, 0x35), 6);
    C.due("year 5", x.fault(0), 6);
    for (int i = 1; i <= 19; i++) C.due("feed " + i, x.feed(-1, -1, -1, -1, -1), 6 + 20 * i);
    C.due("feed: 386 and 14", x.feed(-1, -1, -1, 0x01010000, 0), 400);
    C.due("feed: 401", x.feed(0, 0, 0, 0, 1), NONE);
    for (int b = 0; b < 32; b++) C.due("feed: 401, bit " + b, x.feed(0, 0, 1 << b, 0, 0), NONE);
    C.due("feed of zeros at 400", x.feed(0, 0, 0, 0, 0), 400);
    x.end(381);
    C.due("feed: 381 and 20", x.feed(-1, -1, -1, -1, -1), NONE);
    C.due("refused: nothing came", x.count(2), 381);
    C.due("feed: 381 and 19", x.feed(-1, -1, -1, -1, 0x00ffffff), 400);
  }

  private static void endOfTape() {
    TreatyRouter x = new TreatyRouter();
    Check.feed(x, "year 5");
    C.due("end(7)", x.end(7), false);
    C.due("end(-1)", x.end(-1), false);
    C.due("count(2)", x.count(2), 6);
    C.due("end(6)", x.end(6), true);
    C.due("count(2)", x.count(2), 6);
    C.due("end(3)", x.end(3), true);
    C.due("count(2)", x.count(2), 3);
    C.due("fault(0): 'yea'", x.fault(0), 0);
    C.due("end(4)", x.end(4), false);
  }

  private static void book(String text, int where) {
    C.due("fault of '" + text + "'", Check.fault(0, text), where);
  }

  private static void faultsOfBooks() {
    book("", 0);
    book("   ", 3);
    book("land a 1 2 3", 12);
    book("land a 1 2 3  ", 14);
    book("land a1 2 3;firm x a5", NONE);
    book(" land  a  1 2 3 ;  firm x a 5 ", NONE);
    book("land a 1 2 3;firm x a 5;", 24);
    book("land a 1 2 3;firm x a 5; ", 25);
    book("land a 1 2 3;;firm x a 5", 13);
    book(";land a 1 2 3", 0);
    book("land a 1 2 3 firm x a 5", 13);
    book("land a 1 2 3 4;firm x a 5", 13);
    book("land a 1 2;firm x a 5", 10);
    book("land a 1 b 3", 9);
    book("land 5 1 2 3", 5);
    book("Land a 1 2 3", 0);
    book("land A 1 2 3", 5);
    book("landa 1 2 3", 0);
    book("land a -1 2 3", 7);
    book("land a 1,2 3", 8);
    book("land\ta 1 2 3", 4);
    book("pay 0 0 0 1", 0);
    C.due("fault(2)", new TreatyRouter().fault(2), -2);
    C.due("fault(-1)", new TreatyRouter().fault(-1), -2);
  }

  private static void faultsOfNumbersAndNames() {
    book("land a 1000 1000 1000;firm x a 99", NONE);
    book("land a 0 1001 0", 9);
    book("land a 00000000000000001000 0 0;firm x a 000", NONE);
    book("land a 99999999999999999999 0 0", 7);
    book("land a 4294967296 0 0", 7);
    for (String word : "land firm owns lends treaty ends year pay pass staff own lend".split(" ")) book("land " + word + " 0 0 0", 5);
    book("land payer 0 0 0;firm lan payer 0", NONE);
    book("land abcdefgh 0 0 0;firm abcdefgi abcdefgh 0", NONE);
    book("land abcdefghi 0 0 0", 5);
    String two = "land a 0 0 0;firm x a 0;firm y a 0;";
    book(two + "land x 0 0 0", 40);
    book(two + "firm y a 0", 40);
    book(two + "firm a a 0", 40);
    book(two + "firm z x 0", 42);
    book(two + "owns x y 1 0", NONE);
    book(two + "owns x y 100 99", NONE);
    book(two + "owns x y 0 0", 44);
    book(two + "owns x y 101 0", 44);
    book(two + "owns x y 1 100", 46);
    book(two + "owns x x 1 0", 42);
    book(two + "owns a x 1 0", 40);
    book(two + "owns x a 1 0", 42);
    book(two + "lends x y 99;lends y x 99;owns x y 1 1", NONE);
    book(two + "lends x y 100", 45);
    book(two + "lends x y 0;lends x y 0", 55);
    book(two + "owns x y 1 0;owns x y 200 0", 55);
    String lands = "land a 0 0 0;land b 0 0 0;firm x a 0;";
    book(lands + "treaty a b 99 1000 1000 1000 100 20 99 2;treaty b a 99 1 1 1 1 1 1 1;ends a b 99", NONE);
    book(lands + "treaty a b 100 0 0 0 0 0 0 0", 48);
    book(lands + "treaty a b 0 1001 0 0 0 0 0 0", 50);
    book(lands + "treaty a b 0 0 1001 0 0 0 0 0", 52);
    book(lands + "treaty a b 0 0 0 1001 0 0 0 0", 54);
    book(lands + "treaty a b 0 0 0 0 101 0 0 0", 56);
    book(lands + "treaty a b 0 0 0 0 0 21 0 0", 58);
    book(lands + "treaty a b 0 0 0 0 0 0 100 0", 60);
    book(lands + "treaty a b 0 0 0 0 0 0 0 3", 62);
    book(lands + "treaty a b 0 0 0 0 0 0 0", 61);
    book(lands + "ends a b 100", 46);
    book(lands + "ends a b 1 1", 48);
    book(lands + "ends b b 1", 44);
    book(lands + "ends b x 1", 44);
    book(lands + "year 99", NONE);
    book(lands + "year 0", NONE);
    book(lands + "year 100", 42);
    book(lands + "year 1; year 2", 45);
  }

  private static void faultsOfTooMuch() {
    StringBuilder b = new StringBuilder();
    for (char c = 'a'; c < 'g'; c++) b.append("land ").append(c).append(" 0 0 0;");
    book(b + "firm x a 0", NONE);
    book(b + "land g 0 0 0", b.length());
    book(b + "  land", b.length() + 2);
    for (char c = 'p'; c < 'x'; c++) b.append("firm ").append(c).append(" a 0;");
    book(b + "year 1", NONE);
    book(b + "firm x a 0", b.length());
    StringBuilder t = new StringBuilder("land a 0 0 0;land b 0 0 0;firm x a 0;");
    for (int i = 0; i < 12; i++) t.append(i % 2 == 0 ? "ends a b 0;" : "treaty b a 0 0 0 0 0 0 0 0;");
    book(t + "year 1", NONE);
    book(t + "ends a b 0", t.length());
    book(t + "treaty a b 0 0 0 0 0 0 0 0", t.length());
    StringBuilder l = new StringBuilder("land a 0 0 0;");
    for (char c = 'p'; c < 'u'; c++) l.append("firm ").append(c).append(" a 0;");
    int n = 0;
    for (char c = 'p'; c < 't'; c++) for (char d = 'p'; d < 'u'; d++) if (c != d && n++ < 16) l.append(n % 2 == 0 ? "lends " + c + " " + d + " 0;" : "owns " + c + " " + d + " 1 0;");
    book(l + "year 1", NONE);
    book(l + "owns u p 1 0", l.length());
    book(l + "lends", l.length());
  }

  private static void script(String text, int where) {
    C.due("fault of script '" + text + "'", Check.fault(1, text), where);
  }

  private static void faultsOfScripts() {
    script("", 0);
    script(" ", 1);
    script("pay 9999 9999 9999 9999", NONE);
    script("pay 0 0 0 10000", 10);
    script("pass 00005 ; lend 1 2", NONE);
    script("pass", 4);
    script("pass5;staff1 2", NONE);
    script("pass 1 2", 7);
    script("pass 1;", 7);
    script("pass x", 5);
    script("owns 1 2 3", 0);
    script("lends 1 2", 0);
    script("year 5", 0);
    script("own 1 2", 7);
    script("staff 1", 7);
    script("lend 1", 6);
    script("lend 1 2 3", 9);
    StringBuilder b = new StringBuilder("pass 1");
    for (int i = 1; i < 12; i++) b.append(";pass 1");
    script(b.toString(), NONE);
    script(b + "  ", NONE);
    script(b + " ;pass 1", b.length() + 1);
    script(b + ";", b.length());
    script(b + " x", b.length() + 1);
  }

  private static void textsTaken() {
    TreatyRouter x = new TreatyRouter();
    Check.feed(x, "pass 1");
    C.due("text(0) of a SCRIPT", x.text(0), NONE);
    C.due("the TAPE stays", x.count(2), 6);
    C.due("text(2)", x.text(2), NONE);
    C.due("text(-1)", x.text(-1), NONE);
    C.due("text(1) without a BOOK", x.text(1), 0);
    C.due("the TAPE is empty", x.count(2), 0);
    C.due("text(1) of nothing", x.text(1), NONE);
    Check.feed(x, BOOK);
    C.due("text(1) of a BOOK", x.text(1), NONE);
    C.due("text(0)", x.text(0), 3);
    C.due("the TAPE is empty", x.count(2), 0);
    for (int i = 1; i < 4; i++) {
      Check.feed(x, "staff " + i + " 7");
      C.due("text(1)", x.text(1), i);
    }
    Check.feed(x, "pass 9");
    C.due("fault(1) with four SCRIPTS", x.fault(1), NONE);
    C.due("text(1) with four SCRIPTS", x.text(1), NONE);
    C.due("the TAPE stays", x.count(2), 6);
    C.due("SCRIPT 3 is as it was", x.step(3, 0, 1), 3);
    C.due("SCRIPTS", x.count(1), 4);
    x.end(0);
    x.pay(0, 0, 2, 1000);
    x.staff(0, 100);
    x.image();
    Check.feed(x, "land q 0 0 0;firm w q 7;year");
    C.due("text(0) with a FAULT", x.text(0), NONE);
    C.due("the old BOOK stays", x.count(0), 3);
    C.due("its ACTS too", x.all(3), 882);
    x.end(23);
    C.due("text(0)", x.text(0), 1);
    C.due("lands", x.count(5), 1);
    C.due("links", x.count(6), 0);
    C.due("log gone", x.count(3), 0);
    C.due("undo gone", x.count(4), 0);
    C.due("undo", x.undo(), NONE);
    C.due("back: no IMAGE of this BOOK", x.back(), NONE);
    C.due("GOT gone", x.all(3), 0);
    C.due("TAKEN gone", x.all(2), 0);
    C.due("YEAR", x.all(0), 50);
    C.due("SCRIPTS stay", x.count(1), 4);
    C.due("STATUS stays", x.status(1), 1);
    C.due("name w", x.name(1, 0, 0), 'w');
    C.due("staff", Check.firm(x, 0, 1), 7);
  }

  private static void landsFirmsNames() {
    TreatyRouter x = Check.of("land able 1 20 300;year 7;land bo 0 0 0;firm pq bo 12;firm abcdefgh able 0;owns pq abcdefgh 1 99;lends pq abcdefgh 0");
    C.due("DIVIDEND", x.land(0, 0), 1);
    C.due("INTEREST", x.land(0, 1), 20);
    C.due("TAX", x.land(0, 2), 300);
    C.due("TAKEN", x.land(0, 3), 0);
    C.due("land(0, 4)", x.land(0, 4), NONE);
    C.due("land(0, -1)", x.land(0, -1), NONE);
    C.due("land(2, 0)", x.land(2, 0), NONE);
    C.due("land(-1, 0)", x.land(-1, 0), NONE);
    C.due("LAND of pq", Check.firm(x, 0, 0), 1);
    C.due("STAFF of pq", Check.firm(x, 0, 1), 12);
    C.due("CREDIT of pq", Check.firm(x, 0, 2), 0);
    C.due("GOT of pq", Check.firm(x, 0, 3), 0);
    C.due("LINKS of pq, a later one too", Check.firm(x, 0, 4), 2);
    C.due("LINKS of the other", Check.firm(x, 1, 4), 2);
    C.due("firm(2, 0)", Check.firm(x, 2, 0), -77);
    C.due("firm(-1, 0)", Check.firm(x, -1, 0), -77);
    C.due("firm(0, 5)", Check.firm(x, 0, 5), -77);
    C.due("firm(0, -1)", Check.firm(x, 0, -1), -77);
    C.due("name(0, 0, 3)", x.name(0, 0, 3), 'e');
    C.due("name(0, 0, 4)", x.name(0, 0, 4), NONE);
    C.due("name(1, 1, 7)", x.name(1, 1, 7), 'h');
    C.due("name(1, 1, 8)", x.name(1, 1, 8), NONE);
    C.due("name(1, 1, -1)", x.name(1, 1, -1), NONE);
    C.due("name(1, 1, 64)", x.name(1, 1, 64), NONE);
    C.due("name(1, 2, 0)", x.name(1, 2, 0), NONE);
    C.due("name(2, 0, 0)", x.name(2, 0, 0), NONE);
    C.due("YEAR told", x.all(0), 7);
    C.due("LINKS of later YEARS", x.all(8), 1);
  }

  private static void linksAndTreaties() {
    TreatyRouter x = Check.of("land a 0 0 0;land b 0 0 0;land c 0 0 0;firm p a 0;firm q b 0;lends q p 3;owns p q 44 5;"
        + "treaty a b 10 1 2 3 4 5 6 2;treaty b a 30 11 12 13 14 15 16 1;ends a b 60;treaty a b 30 21 22 23 24 20 26 0;treaty b a 80 9 9 9 9 9 9 1");
    int[][] links = {{1, 1, 0, 0, 3}, {0, 0, 1, 44, 5}};
    for (int k = 0; k < 2; k++) for (int what = 0; what < 5; what++) C.due("link " + k + " " + what, x.link(k, what), links[k][what]);
    C.due("link(2, 0)", x.link(2, 0), NONE);
    C.due("link(-1, 0)", x.link(-1, 0), NONE);
    C.due("link(0, 5)", x.link(0, 5), NONE);
    C.due("link(0, -1)", x.link(0, -1), NONE);
    C.due("treaty of 9", x.treaty(0, 1, 9, 0), NONE);
    for (int what = 0; what < 8; what++) C.due("treaty of 29", x.treaty(1, 0, 29, what), new int[] {10, 1, 2, 3, 4, 5, 6, 2}[what]);
    for (int what = 0; what < 8; what++) C.due("treaty of 30, the one told last", x.treaty(0, 1, 30, what), new int[] {30, 21, 22, 23, 24, 20, 26, 0}[what]);
    C.due("treaty of 59", x.treaty(0, 1, 59, 0), 30);
    C.due("treaty of 60: ends", x.treaty(0, 1, 60, 0), NONE);
    C.due("treaty of 79", x.treaty(0, 1, 79, 0), NONE);
    C.due("treaty of 199", x.treaty(0, 1, 199, 0), 80);
    C.due("treaty of 200", x.treaty(0, 1, 200, 0), NONE);
    C.due("treaty of -1", x.treaty(0, 1, -1, 0), NONE);
    C.due("treaty, what 8", x.treaty(0, 1, 80, 8), NONE);
    C.due("treaty, what -1", x.treaty(0, 1, 80, -1), NONE);
    C.due("treaty of one", x.treaty(0, 0, 80, 0), NONE);
    C.due("treaty of a, c", x.treaty(0, 2, 80, 0), NONE);
    C.due("treaty, no such LAND", x.treaty(0, 3, 80, 0), NONE);
    C.due("treaty, no such LAND", x.treaty(-1, 1, 80, 0), NONE);
    TreatyRouter y = Check.of("land a 0 0 0;land b 0 0 0;firm p a 0;ends a b 10;treaty b a 10 5 5 5 5 5 5 0");
    C.due("told last, with an end of the same YEAR ahead", y.treaty(0, 1, 10, 1), 5);
    C.due("treaty of 0", Check.of(BOOK).treaty(2, 1, 0, 7), 1);
  }

  private static void hopIs(TreatyRouter x, int sort, int from, int to, int owner, int rate, int article) {
    String call = "hop " + sort + " " + from + " " + to + " " + owner;
    C.due(call + " RATE", x.hop(sort, from, to, owner, 0), rate);
    C.due(call + " ARTICLE", x.hop(sort, from, to, owner, 1), article);
  }

  private static void hops() {
    String lands = "land a 100 200 0;land b 300 400 0;firm p a 3;firm q b 3;";
    hopIs(Check.of(lands + "owns q p 10 40;lends q p 40"), 0, 0, 1, 1, 100, 1);
    hopIs(Check.of(lands + "owns q p 10 40;lends q p 40"), 1, 0, 1, 1, 200, 1);
    hopIs(Check.of(lands + "owns p q 10 40"), 0, 1, 0, 0, 300, 1);
    hopIs(Check.of(lands + "owns q p 10 51"), 0, 0, 1, 1, NONE, NONE);
    hopIs(Check.of(lands + "owns q p 10 50"), 0, 0, 1, 1, 100, 1);
    hopIs(Check.of("land a 9 9 9;firm p a 0;firm q a 0;owns p q 1 0"), 0, 1, 0, 0, 0, 0);
    hopIs(Check.of(lands + "owns q p 10 40;treaty a b 50 5 6 7 10 10 3 0"), 0, 0, 1, 1, 5, 0);
    hopIs(Check.of(lands + "owns q p 10 40;treaty a b 51 5 6 7 10 10 3 0"), 0, 0, 1, 1, 100, 1);
    hopIs(Check.of(lands + "owns q p 10 40;treaty a b 0 5 6 7 11 11 4 0"), 0, 0, 1, 1, 100, 2);
    hopIs(Check.of(lands + "owns q p 10 40;treaty a b 0 5 6 7 11 11 3 0"), 0, 0, 1, 1, 6, 4);
    hopIs(Check.of(lands + "owns q p 10 40;treaty a b 0 5 6 7 10 11 3 0"), 0, 0, 1, 1, 6, 5);
    hopIs(Check.of(lands + "lends q p 40;treaty a b 0 5 6 7 100 20 3 0"), 1, 0, 1, 1, 7, 0);
    hopIs(Check.of(lands + "lends q p 40;treaty a b 0 5 6 7 100 20 4 0"), 1, 0, 1, 1, 200, 2);
    hopIs(Check.of(lands + "owns q p 10 40;treaty a b 0 5 6 7 0 0 0 0;ends b a 50"), 0, 0, 1, 1, 100, 1);
    TreatyRouter x = Check.of(lands + "owns q p 10 40");
    C.due("hop of the other sort", x.hop(1, 0, 1, 1, 0), NONE);
    C.due("hop the other way", x.hop(0, 1, 0, 1, 0), NONE);
    C.due("hop, sort 2", x.hop(2, 0, 1, 1, 0), NONE);
    C.due("hop, what 2", x.hop(0, 0, 1, 1, 2), NONE);
    C.due("hop, what -1", x.hop(0, 0, 1, 1, -1), NONE);
    C.due("hop, no OWNER", x.hop(0, 0, 1, 2, 0), NONE);
    C.due("hop, no FIRM", x.hop(0, 2, 1, 1, 0), NONE);
    C.due("hop, no FIRM", x.hop(0, 0, -1, 1, 0), NONE);
    C.due("hop to itself", x.hop(0, 0, 0, 0, 0), NONE);
  }

  private static void ownersOfHops() {
    String lands = "land a 100 0 0;land b 0 0 0;land c 0 0 0;land d 0 0 0;firm p a 0;firm q b 0;firm r c 0;firm s d 0;firm t a 0;firm u b 0;owns q p 10 40;";
    TreatyRouter one = Check.of(lands + "treaty a b 0 5 6 7 0 0 0 1;treaty a c 0 0 0 0 0 0 0 0");
    hopIs(one, 0, 0, 1, 1, 5, 0);
    hopIs(one, 0, 0, 1, 5, 5, 0);
    hopIs(one, 0, 0, 1, 2, 100, 3);
    hopIs(one, 0, 0, 1, 4, 100, 3);
    TreatyRouter two = Check.of(lands + "treaty a b 0 5 6 7 0 0 0 2;treaty a c 0 0 0 0 0 0 0 0;treaty b d 0 0 0 0 0 0 0 0");
    hopIs(two, 0, 0, 1, 1, 5, 0);
    hopIs(two, 0, 0, 1, 4, 5, 0);
    hopIs(two, 0, 0, 1, 2, 5, 0);
    hopIs(two, 0, 0, 1, 3, 100, 3);
  }

  private static void bestWays() {
    TreatyRouter x = Check.of(BOOK);
    int[] due = {882, 2, 118, 0};
    for (int what = 0; what < 4; what++) C.due("best " + what, x.best(0, 0, 2, 1000, what), due[what]);
    C.due("best, what 4", x.best(0, 0, 2, 1000, 4), NONE);
    C.due("best, what -1", x.best(0, 0, 2, 1000, -1), NONE);
    C.due("best, sort 2", x.best(2, 0, 2, 1000, 0), NONE);
    C.due("best, sort -1", x.best(-1, 0, 2, 1000, 0), NONE);
    C.due("best of 0", x.best(0, 0, 2, 0, 0), NONE);
    C.due("best of 1", x.best(0, 0, 2, 1, 0), 1);
    C.due("best of a million", x.best(0, 0, 2, 1000000, 0), 882000);
    C.due("best of more", x.best(0, 0, 2, 1000001, 0), NONE);
    C.due("best, both are one", x.best(0, 1, 1, 1, 0), NONE);
    C.due("best, no FIRM", x.best(0, 0, 3, 1, 0), NONE);
    C.due("best, no FIRM", x.best(0, -1, 2, 1, 0), NONE);
    C.due("best, no WAY", x.best(0, 2, 0, 1, 0), NONE);
    C.due("no STATUS of what is asked", x.status(0) + x.status(1) + x.status(2) + x.status(3), 0);
    TreatyRouter all = Check.of("land a 1000 0 0;land b 0 0 0;firm p a 0;firm q b 0;owns q p 10 40");
    C.due("all kept back: 0 ARRIVES", all.best(0, 0, 1, 1000, 0), 0);
    C.due("all kept back: a WAY", all.best(0, 0, 1, 1000, 1), 1);
  }

  private static void bestOfLikeWays() {
    String firms = "land a 0 0 0;firm p a 0;firm q a 0;firm r a 0;firm s a 0;firm t a 0;";
    TreatyRouter x = Check.of(firms + "owns t s 50 0;owns s r 50 0;owns r p 50 0;owns t q 50 0;owns q p 50 0;owns t r 50 0");
    C.due("of like WAYS fewer HOPS", x.best(0, 0, 4, 10, 1), 2);
    C.due("then the lowest FIRM", x.stop(0, 0, 4, 10, 0, 0), 1);
    TreatyRouter y = Check.of(firms + "owns t s 50 0;owns s p 50 0;owns t r 50 0;owns r p 50 0;owns q p 50 0;owns s q 50 0");
    C.due("the lowest of those with fewest", y.stop(0, 0, 4, 10, 0, 0), 2);
    C.due("LEAST by the same rules", y.least(0, 0, 4, 10, 1), 2);
    C.due("LOOPS", y.loops(0, 0, 4), 3);
  }

  private static void fourStops() {
    StringBuilder b = new StringBuilder("land a 0 0 0");
    for (char c = 'p'; c < 'w'; c++) b.append(";firm ").append(c).append(" a 0");
    for (char c = 'p'; c < 'v'; c++) b.append(";lends ").append((char) (c + 1)).append(' ').append(c).append(" 0");
    TreatyRouter x = Check.of(b.toString());
    C.due("four STOPS", x.best(1, 0, 5, 7, 1), 5);
    C.due("five are too many", x.best(1, 0, 6, 7, 1), NONE);
    C.due("LOOPS of four", x.loops(1, 0, 5), 1);
    C.due("LOOPS of five", x.loops(1, 0, 6), 0);
    C.due("lend back", x.lend(0, 3), 1);
    C.due("no FIRM twice", x.loops(1, 0, 5), 1);
  }

  private static void taxAndCredit() {
    TreatyRouter x = Check.of(LOANS);
    C.due("300 of DUE 200 set off", x.best(1, 0, 2, 1000, 3), 0);
    C.due("PAID", x.pay(1, 0, 2, 1000), 700);
    C.due("the rest is CREDIT", x.firm(1, 2), 100);
    C.due("YEAR 60", x.pass(10), 60);
    C.due("DUE 200 less 50 less 100", x.best(1, 0, 2, 1000, 3), 50);
    C.due("PAID", x.pay(1, 0, 2, 1000), 900);
    C.due("no CREDIT is left", x.firm(1, 2), 0);
    C.due("PAID again", x.pay(1, 0, 2, 1000), 800);
    C.due("TAKEN of a", x.land(0, 3), 400);
    C.due("TAKEN of b", x.land(1, 3), 200);
    String owned = "land a 100 0 0;land b 0 0 200;firm p a 0;firm q b 0;firm r b 0;owns r q 1 0;owns q p ";
    TreatyRouter low = Check.of(owned + "24 0");
    C.due("SHARE 24: taxed, 100 set off", low.best(0, 0, 2, 1000, 3), 100);
    C.due("SHARE 24: ARRIVES", low.pay(0, 0, 2, 1000), 800);
    TreatyRouter high = Check.of(owned + "25 0");
    C.due("SHARE 25: not taxed", high.best(0, 0, 2, 1000, 3), 0);
    C.due("SHARE 25: ARRIVES", high.pay(0, 0, 2, 1000), 900);
    C.due("SHARE 25: no CREDIT", high.firm(1, 2), 0);
    TreatyRouter cut = Check.of("land a 0 15 0;land b 0 15 15;firm p a 0;firm q b 0;firm r a 0;lends q p 0;lends r q 0");
    C.due("cut: 199 by 15 by 1000", cut.stop(1, 0, 2, 199, 0, 4), 2);
    C.due("cut: what is paid on", cut.stop(1, 0, 2, 199, 1, 3), 197);
    C.due("cut: ARRIVES", cut.best(1, 0, 2, 199, 0), 195);
    TreatyRouter free = Check.of("land a 0 300 0;land b 0 0 0;firm p a 0;firm q b 0;firm r b 0;lends q p 0;lends r q 0");
    C.due("TAX 0: all is CREDIT", free.pay(1, 0, 2, 1000), 700);
    C.due("TAX 0: CREDIT", free.firm(1, 2), 300);
    C.due("the end is not taxed, has no CREDIT", free.firm(2, 2), 0);
    C.due("GOT", free.firm(2, 3), 700);
  }

  private static void stopsAndSpelling() {
    TreatyRouter x = Check.of(BOOK);
    int[][] legs = {{1, 100, 2, 1000, 100}, {2, 20, 0, 900, 18}};
    for (int i = 0; i < 2; i++) for (int what = 0; what < 5; what++) C.due("stop " + i + " " + what, x.stop(0, 0, 2, 1000, i, what), legs[i][what]);
    C.due("stop 2", x.stop(0, 0, 2, 1000, 2, 0), NONE);
    C.due("stop -1", x.stop(0, 0, 2, 1000, -1, 0), NONE);
    C.due("stop, what 5", x.stop(0, 0, 2, 1000, 0, 5), NONE);
    C.due("stop, what -1", x.stop(0, 0, 2, 1000, 0, -1), NONE);
    C.due("stop, no WAY", x.stop(0, 2, 0, 1000, 0, 0), NONE);
    C.due("TEXT", Check.spelled(x, 0, 0, 2, 1000), "x >10%!2 y >2% z");
    C.due("TEXT of interest", Check.spelled(x, 1, 0, 2, 1000), "x >3% z");
    C.due("spell, i -2", x.spell(0, 0, 2, 1000, -2), NONE);
    C.due("spell, i 16", x.spell(0, 0, 2, 1000, 16), NONE);
    C.due("spell, no WAY", x.spell(0, 2, 0, 1000, -1), NONE);
    C.due("spell, AMOUNT 0", x.spell(0, 0, 2, 0, -1), NONE);
    TreatyRouter y = Check.of("land a 125 1000 0;land b 5 0 0;land c 0 0 0;firm longname a 0;firm mid b 0;firm endfirm c 0;firm home c 0;"
        + "owns mid longname 30 0;owns endfirm mid 30 0;owns home endfirm 30 0;lends mid longname 0");
    C.due("TEXT with rests", Check.spelled(y, 0, 0, 3, 10), "longname >12.5%!1 mid >0.5%!1 endfirm >0% home");
    C.due("TEXT of 1000", Check.spelled(y, 1, 0, 1, 10), "longname >100%!1 mid");
  }

  private static void paying() {
    TreatyRouter x = Check.of(BOOK);
    C.due("pay", x.pay(0, 0, 2, 1000), 882);
    C.due("TAKEN of a", x.land(0, 3), 100);
    C.due("TAKEN of b", x.land(1, 3), 18);
    C.due("GOT", x.firm(2, 3), 882);
    C.due("pay, no FIRM", x.pay(5, 0, 3, 0), NONE);
    C.due("pay, no FIRM", x.pay(0, -1, 2, 5), NONE);
    C.due("STATUS 0 first", x.status(0), 2);
    C.due("pay, sort 2, both are one", x.pay(2, 0, 0, 5), NONE);
    C.due("pay, AMOUNT 0", x.pay(0, 0, 2, 0), NONE);
    C.due("pay, AMOUNT 1000001", x.pay(0, 0, 2, 1000001), NONE);
    C.due("STATUS 1", x.status(1), 3);
    C.due("pay, both are one", x.pay(0, 0, 0, 5), NONE);
    C.due("pay, no WAY", x.pay(0, 2, 0, 5), NONE);
    C.due("STATUS 2", x.status(2), 2);
    C.due("STATUS 3", x.status(3), 0);
    C.due("status(4)", x.status(4), NONE);
    C.due("status(-1)", x.status(-1), NONE);
    C.due("refused: nothing in the LOG", x.count(3), 1);
  }

  private static void passing() {
    TreatyRouter x = Check.of(BOOK);
    C.due("pass 0", x.pass(0), NONE);
    C.due("pass 21", x.pass(21), NONE);
    C.due("pass 1", x.pass(1), 51);
    for (int year = 71; year <= 191; year += 20) C.due("pass 20", x.pass(20), year);
    C.due("pass beyond 199", x.pass(9), NONE);
    C.due("pass 21 beyond 199: out of bounds first", x.pass(21), NONE);
    C.due("pass to 199", x.pass(8), 199);
    C.due("pass 1 more", x.pass(1), NONE);
    C.due("STATUS 1", x.status(1), 3);
    C.due("STATUS 3", x.status(3), 2);
  }

  private static void staffing() {
    TreatyRouter x = Check.of(BOOK);
    C.due("staff", x.staff(1, 99), 3);
    C.due("staff", x.staff(1, 0), 99);
    C.due("STAFF", x.firm(1, 1), 0);
    C.due("it is so", x.staff(1, 0), NONE);
    C.due("STATUS 2", x.status(2), 1);
    C.due("staff 100", x.staff(1, 100), NONE);
    C.due("staff -1", x.staff(1, -1), NONE);
    C.due("STATUS 1", x.status(1), 2);
    C.due("no FIRM, and out of bounds", x.staff(3, -1), NONE);
    C.due("STATUS 0", x.status(0), 1);
  }

  private static void owning() {
    TreatyRouter x = Check.of(BOOK);
    x.pass(7);
    C.due("own: was 30", x.own(1, 0, 5), 30);
    C.due("SINCE stays", x.link(0, 4), 10);
    C.due("SHARE", x.link(0, 3), 5);
    C.due("own: new", x.own(0, 1, 100), 0);
    C.due("behind the others", x.link(4, 1), 0);
    C.due("SINCE is YEAR", x.link(4, 4), 57);
    C.due("own: gone", x.own(2, 1, 0), 100);
    C.due("the others stay in order", x.link(1, 3), 10);
    C.due("the others stay in order", x.link(2, 0), 1);
    C.due("the others stay in order", x.link(3, 3), 100);
    C.due("LINKS", x.count(6), 4);
    C.due("none as it is", x.own(2, 1, 0), NONE);
    C.due("as it is", x.own(1, 0, 5), NONE);
    C.due("both are one", x.own(1, 1, 5), NONE);
    C.due("STATUS 2", x.status(2), 3);
    C.due("101 of itself", x.own(1, 1, 101), NONE);
    C.due("-1", x.own(1, 0, -1), NONE);
    C.due("STATUS 1", x.status(1), 2);
    C.due("no FIRM, 101", x.own(1, 3, 101), NONE);
    C.due("STATUS 0", x.status(0), 1);
    TreatyRouter later = Check.of("land a 0 0 0;firm p a 0;firm q a 0;owns p q 7 90");
    C.due("a LINK of a later YEAR has its SHARE", later.own(0, 1, 8), 7);
    C.due("and keeps SINCE", later.link(0, 4), 90);
  }

  private static void lending() {
    TreatyRouter x = Check.of(BOOK);
    C.due("lend", x.lend(0, 2), 1);
    C.due("a LINK more", x.link(4, 0), 1);
    C.due("its first FIRM", x.link(4, 1), 0);
    C.due("its second FIRM", x.link(4, 2), 2);
    C.due("its SHARE", x.link(4, 3), 0);
    C.due("its SINCE", x.link(4, 4), 50);
    C.due("interest from 2 to 0", x.best(1, 2, 0, 100, 1), 1);
    C.due("lend, gone", x.lend(2, 0), 0);
    C.due("the other is the fourth now", x.link(3, 1), 0);
    C.due("lend to itself", x.lend(2, 2), NONE);
    C.due("STATUS 2", x.status(2), 1);
    C.due("lend, no FIRM", x.lend(2, 3), NONE);
    C.due("lend, no FIRM", x.lend(-1, -1), NONE);
    C.due("STATUS 0", x.status(0), 2);
  }

  private static void sixteenLinks() {
    TreatyRouter x = Check.of("land a 0 0 0;firm p a 0;firm q a 0;firm r a 0;firm s a 0;firm t a 0");
    int made = 0;
    for (int f = 0; f < 4; f++) for (int g = 0; g < 5; g++) if (f != g && made < 16) {
      made++;
      C.due("link " + made, f % 2 == 0 ? x.own(f, g, 9) : x.lend(f, g), f % 2 == 0 ? 0 : 1);
    }
    C.due("16", x.count(6), 16);
    C.due("a 17th loan", x.lend(4, 0), NONE);
    C.due("a 17th SHARE", x.own(4, 0, 1), NONE);
    C.due("STATUS 3", x.status(3), 2);
    C.due("another SHARE is fine", x.own(0, 1, 10), 9);
    C.due("no SHARE of none: it is so", x.own(4, 0, 0), NONE);
    C.due("STATUS 2", x.status(2), 1);
    C.due("a loan is gone", x.lend(1, 0), 0);
    C.due("and another is made", x.lend(4, 0), 1);
    C.due("full again", x.own(4, 0, 1), NONE);
    C.due("STATUS 3", x.status(3), 3);
  }

  private static void drawnYears() {
    TreatyRouter x = Check.of(BOOK);
    C.due("years 0", x.years(0, 5), NONE);
    C.due("years 41", x.years(41, 5), NONE);
    C.due("no STATUS", x.status(1), 0);
    long seed = 123456789L;
    TreatyRouter y = Check.of(BOOK);
    int answer = x.years(40, seed);
    long[] at = {seed};
    for (int i = 0; i < 40; i++) {
      int kind = draw(at, 8);
      if (kind < 4) y.pay(draw(at, 2), draw(at, 3), draw(at, 3), draw(at, 1000) + 1);
      else if (kind == 4) y.pass(draw(at, 5) + 1);
      else if (kind == 5) y.staff(draw(at, 3), draw(at, 100));
      else if (kind == 6) y.own(draw(at, 3), draw(at, 3), draw(at, 101));
      else y.lend(draw(at, 3), draw(at, 3));
    }
    C.due("years: YEAR", answer, y.all(0));
    C.due("years: some were refused", y.status(2) > 0, true);
    C.due("years: no STATUS", x.status(2), 0);
    for (int what = 0; what < 9; what++) C.due("years: all " + what, x.all(what), y.all(what));
    C.due("years: ACTS", x.count(4), y.count(4));
    for (int i = 0; i < x.count(3); i++) C.due("years: log " + i, x.log(i, 1), y.log(i, 1));
    C.due("a seed's highest bits count", Check.of(BOOK).years(40, Long.MIN_VALUE) > 0, true);
  }

  private static int draw(long[] at, int j) {
    at[0] = at[0] * 6364136223846793005L + 1442695040888963407L;
    return (int) ((at[0] >>> 33) % j);
  }

  private static void undoing() {
    TreatyRouter x = Check.of(LOANS);
    C.due("undo: none", x.undo(), NONE);
    x.pay(1, 0, 2, 1000);
    x.pass(10);
    x.staff(0, 5);
    x.own(0, 1, 50);
    x.lend(1, 0);
    x.staff(0, 5);
    C.due("count(4)", x.count(4), 5);
    C.due("undo the loan", x.undo(), 4);
    C.due("it is there again", x.link(0, 1), 1);
    C.due("in its place", x.link(1, 1), 2);
    C.due("the SHARE too", x.link(2, 3), 50);
    C.due("undo the SHARE", x.undo(), 3);
    C.due("LINKS", x.count(6), 2);
    C.due("undo STAFF", x.undo(), 2);
    C.due("STAFF", x.firm(0, 1), 0);
    C.due("undo YEARS", x.undo(), 1);
    C.due("YEAR", x.all(0), 50);
    C.due("CREDIT", x.firm(1, 2), 100);
    C.due("LOG", x.count(3), 1);
    C.due("undo PAID", x.undo(), 0);
    C.due("CREDIT", x.firm(1, 2), 0);
    C.due("GOT", x.all(3), 0);
    C.due("TAKEN", x.all(2), 0);
    C.due("LOG", x.count(3), 0);
    C.due("STATUS stays", x.status(2), 1);
    C.due("undo: none", x.undo(), NONE);
    for (int i = 1; i <= 45; i++) x.staff(0, i);
    C.due("the latest 40", x.count(4), 40);
    for (int i = 39; i >= 0; i--) C.due("undo", x.undo(), i);
    C.due("undo: no more", x.undo(), NONE);
    C.due("STAFF of the fifth", x.firm(0, 1), 5);
  }

  private static void logging() {
    TreatyRouter x = Check.of(LOANS);
    x.pay(1, 0, 2, 1000);
    x.pass(3);
    x.staff(1, 5);
    x.own(2, 1, 50);
    x.own(2, 1, 60);
    x.lend(1, 2);
    x.lend(2, 1);
    int[][] due = {{4, 0, 2}, {4, 1, 1}, {3, 50, 2}, {3, 0, 2}, {2, 0, 1}, {1, 53, NONE}, {0, 700, 2}};
    for (int i = 0; i < 7; i++) for (int what = 0; what < 3; what++) C.due("log " + i + " " + what, x.log(i, what), due[i][what]);
    C.due("log(7, 0)", x.log(7, 0), HIDDEN);
    C.due("log(-1, 0)", x.log(-1, 0), HIDDEN);
    C.due("log(0, 3)", x.log(0, 3), HIDDEN);
    C.due("log(0, -1)", x.log(0, -1), HIDDEN);
    for (int i = 0; i < 110; i++) x.staff(0, 1 + i % 99);
    C.due("the latest 60", x.count(3), 60);
    C.due("the oldest told", x.log(59, 1), 50);
    C.due("none behind it", x.log(60, 0), HIDDEN);
    for (int i = 0; i < 40; i++) x.undo();
    C.due("undone: the latest 60 of what stands", x.count(3), 60);
    C.due("the latest told", x.log(0, 1), 69);
    C.due("the oldest told", x.log(59, 1), 10);
    x.pass(1);
    C.due("one more: the oldest told", x.log(59, 1), 11);
    x.undo();
    C.due("undone: the oldest told", x.log(59, 1), 10);
  }

  private static void otherYears() {
    TreatyRouter x = Check.of(BOOK);
    C.due("AS OF now", x.asOf(0, 0, 2, 1000, 50, 0), 882);
    C.due("AS OF 29", x.asOf(0, 0, 2, 1000, 29, 0), 880);
    C.due("AS OF 29, HOPS", x.asOf(0, 0, 2, 1000, 29, 1), 1);
    C.due("AS OF 19: no WAY", x.asOf(0, 0, 2, 1000, 19, 0), NONE);
    C.due("AS OF 19: no WAY", x.asOf(0, 0, 2, 1000, 19, 1), NONE);
    C.due("AS OF 20: not five YEARS, but the SHARE comes first", x.asOf(0, 0, 2, 1000, 20, 0), 880);
    C.due("AS OF 199", x.asOf(0, 0, 2, 1000, 199, 0), 882);
    C.due("AS OF 200", x.asOf(0, 0, 2, 1000, 200, 0), NONE);
    C.due("AS OF -1", x.asOf(0, 0, 2, 1000, -1, 0), NONE);
    C.due("AS OF 0", Check.of("land a 0 0 0;firm p a 0;firm q a 0;lends p q 0").asOf(1, 1, 0, 5, 0, 0), 5);
    C.due("AS OF, what 2", x.asOf(0, 0, 2, 1000, 50, 2), NONE);
    C.due("AS OF, AMOUNT 0", x.asOf(0, 0, 2, 0, 50, 0), NONE);
    C.due("the YEAR is as it was", x.all(0), 50);
    TreatyRouter loans = Check.of(LOANS);
    loans.pay(1, 0, 2, 1000);
    C.due("CREDIT as now", loans.asOf(1, 0, 2, 1000, 60, 0), 900);
    C.due("SOON: 60", loans.soon(1, 0, 2, 1000), 60);
    C.due("SOON, no WAY", loans.soon(1, 2, 0, 1000), NONE);
    C.due("SOON, AMOUNT 0", loans.soon(1, 0, 2, 0), NONE);
    String later = "land a 100 0 0;land b 0 0 0;firm p a 0;firm q b 0;year 30;owns q p 10 ";
    C.due("SOON: the WAY comes", Check.of(later + "50").soon(0, 0, 1, 10), 50);
    C.due("SOON: 21 ahead is too late", Check.of(later + "51").soon(0, 0, 1, 10), NONE);
    TreatyRouter aged = Check.of(later + "25;treaty a b 0 0 50 0 5 15 0 0");
    C.due("SOON: the YEARS held", aged.soon(0, 0, 1, 1000), 40);
    TreatyRouter last = Check.of("land a 100 0 0;land b 0 0 0;firm p a 0;firm q b 0;treaty a b 0 0 50 0 5 20 0 0;year 99");
    for (int i = 0; i < 5; i++) last.pass(19);
    last.own(1, 0, 10);
    C.due("SOON: no YEAR behind 199", last.soon(0, 0, 1, 1000), 194);
  }

  private static void hiring() {
    TreatyRouter x = Check.of(BOOK);
    C.due("HIRE at y", x.hire(0, 0, 2, 1000, 1), 4);
    C.due("HIRE at z", x.hire(0, 0, 2, 1000, 2), 0);
    C.due("HIRE at x", x.hire(0, 0, 2, 1000, 0), 0);
    C.due("HIRE, no FIRM", x.hire(0, 0, 2, 1000, 3), NONE);
    C.due("HIRE, no FIRM", x.hire(0, 0, 2, 1000, -1), NONE);
    C.due("HIRE, no WAY", x.hire(0, 2, 0, 1000, 1), NONE);
    C.due("HIRE, AMOUNT 0", x.hire(0, 0, 2, 0, 1), NONE);
    C.due("STAFF is as it was", x.firm(1, 1), 3);
    TreatyRouter most = Check.of("land a 100 0 0;land b 0 0 0;firm p a 0;firm q b 0;owns q p 10 0;treaty a b 0 0 0 0 0 0 99 0");
    C.due("HIRE of 99", most.hire(0, 0, 1, 1000, 1), 99);
    TreatyRouter worse = Check.of("land a 100 0 0;land b 0 0 0;firm p a 0;firm q b 99;owns q p 10 0;treaty a b 0 200 0 0 0 0 5 0");
    C.due("HIRE of none, where the TREATY takes more", worse.hire(0, 0, 1, 1000, 1), 0);
  }

  private static void withoutAndKey() {
    TreatyRouter x = Check.of(BOOK);
    C.due("WITHOUT y", x.without(0, 0, 2, 1000, 1), 880);
    C.due("WITHOUT FROM", x.without(0, 0, 2, 1000, 0), NONE);
    C.due("WITHOUT TO", x.without(0, 0, 2, 1000, 2), NONE);
    C.due("WITHOUT no FIRM", x.without(0, 0, 2, 1000, 3), NONE);
    C.due("WITHOUT, AMOUNT 0", x.without(0, 0, 2, 0, 1), NONE);
    C.due("KEY", x.key(0, 0, 2, 1000), 1);
    C.due("KEY, no WAY", x.key(0, 2, 0, 1000), NONE);
    C.due("KEY, AMOUNT 0", x.key(0, 0, 2, 0), NONE);
    TreatyRouter loans = Check.of(LOANS);
    C.due("WITHOUT y no WAY", loans.without(1, 0, 2, 1000, 1), NONE);
    C.due("KEY y", loans.key(1, 0, 2, 1000), 1);
    TreatyRouter two = Check.of("land a 0 0 0;firm p a 0;firm q a 0;lends q p 0");
    C.due("KEY: no others", two.key(1, 0, 1, 5), NONE);
    TreatyRouter four = Check.of("land a 0 0 0;firm p a 0;firm q a 0;firm r a 0;firm s a 0;lends s r 0;lends r p 0");
    C.due("KEY: no WAY is less than all", four.key(1, 0, 3, 5), 2);
    four.lend(3, 0);
    C.due("KEY: of several the lowest", four.key(1, 0, 3, 5), 1);
  }

  private static void lapsing() {
    TreatyRouter x = Check.of(BOOK);
    C.due("LAPSED a c", x.lapsed(0, 0, 2, 1000, 0, 2), 900);
    C.due("LAPSED b c", x.lapsed(0, 0, 2, 1000, 1, 2), 900);
    C.due("LAPSED c b", x.lapsed(0, 0, 2, 1000, 2, 1), 900);
    C.due("LAPSED a b", x.lapsed(0, 0, 2, 1000, 0, 1), 882);
    C.due("LAPSED of one", x.lapsed(0, 0, 2, 1000, 1, 1), NONE);
    C.due("LAPSED, no LAND", x.lapsed(0, 0, 2, 1000, 1, 3), NONE);
    C.due("LAPSED, no LAND", x.lapsed(0, 0, 2, 1000, -1, 1), NONE);
    C.due("LAPSED, no WAY", x.lapsed(0, 2, 0, 1000, 0, 1), NONE);
    C.due("nothing has changed", x.treaty(0, 2, 50, 0), 0);
    C.due("nothing has changed", x.best(0, 0, 2, 1000, 0), 882);
    TreatyRouter owner = Check.of("land a 100 0 0;land b 0 0 0;land c 0 0 0;firm p a 0;firm q b 0;firm r c 0;owns q p 30 0;owns r q 30 0;"
        + "treaty a b 0 0 0 0 0 0 0 2;treaty c a 0 0 0 0 0 0 0 0");
    C.due("OWNER 2 with a TREATY", owner.best(0, 0, 2, 1000, 0), 1000);
    C.due("LAPSED: the OWNER has none then", owner.lapsed(0, 0, 2, 1000, 0, 2), 900);
  }

  private static void loopsLeastDirect() {
    TreatyRouter x = Check.of(BOOK);
    C.due("LOOPS", x.loops(0, 0, 2), 2);
    C.due("LOOPS of none", x.loops(0, 2, 0), 0);
    C.due("LOOPS, both are one", x.loops(0, 2, 2), NONE);
    C.due("LOOPS, sort 2", x.loops(2, 0, 2), NONE);
    C.due("LOOPS, no FIRM", x.loops(0, 0, 3), NONE);
    C.due("LEAST", x.least(0, 0, 2, 1000, 0), 118);
    C.due("LEAST, HOPS", x.least(0, 0, 2, 1000, 1), 2);
    C.due("LEAST, ARRIVES", x.least(0, 0, 2, 1000, 2), 882);
    C.due("LEAST, what 3", x.least(0, 0, 2, 1000, 3), NONE);
    C.due("LEAST, what -1", x.least(0, 0, 2, 1000, -1), NONE);
    C.due("LEAST, no WAY", x.least(0, 2, 0, 1000, 0), NONE);
    C.due("DIRECT", x.direct(0, 0, 2, 1000), 880);
    C.due("DIRECT of interest", x.direct(1, 0, 2, 1000), 970);
    C.due("DIRECT, no HOP", x.direct(1, 0, 1, 1000), NONE);
    C.due("DIRECT, AMOUNT 0", x.direct(0, 0, 2, 0), NONE);
    C.due("DIRECT, both are one", x.direct(0, 0, 0, 5), NONE);
    TreatyRouter y = Check.of("land a 0 100 0;land b 0 0 900;firm p a 0;firm q a 0;firm s b 0;firm r b 0;lends r p 0;lends s q 0;lends q p 0;lends r s 0;"
        + "treaty a b 0 0 0 90 0 0 0 0");
    C.due("most by the one that keeps more back", y.best(1, 0, 3, 1000, 1), 1);
    C.due("LEAST is like: fewer HOPS", y.least(1, 0, 3, 1000, 1), 1);
    TreatyRouter z = Check.of("land a 0 100 0;land b 0 0 900;firm p a 0;firm s b 0;firm r b 0;land c 0 0 0;firm t c 0;lends t p 0;lends s p 0;lends t s 0;treaty a b 0 0 0 50 0 0 0 0");
    C.due("BEST keeps 100 back", z.best(1, 0, 3, 1000, 2), 100);
    C.due("LEAST keeps 50 back", z.least(1, 0, 3, 1000, 0), 50);
    C.due("LEAST: less ARRIVES", z.least(1, 0, 3, 1000, 2), 100);
    C.due("BEST is not changed by it", z.best(1, 0, 3, 1000, 0), 900);
  }

  private static void takeTwiceGross() {
    TreatyRouter x = Check.of(BOOK);
    C.due("TAKE a", x.take(0, 0, 2, 1000, 0), 100);
    C.due("TAKE b", x.take(0, 0, 2, 1000, 1), 18);
    C.due("TAKE c", x.take(0, 0, 2, 1000, 2), 0);
    C.due("TAKE, no LAND", x.take(0, 0, 2, 1000, 3), NONE);
    C.due("TAKE, no LAND", x.take(0, 0, 2, 1000, -1), NONE);
    C.due("TAKE, no WAY", x.take(0, 2, 0, 1000, 0), NONE);
    C.due("TWICE", x.twice(0, 0, 2, 1000), 1764);
    C.due("TWICE, no WAY", x.twice(0, 2, 0, 1000), NONE);
    C.due("TWICE, AMOUNT 0", x.twice(0, 0, 2, 0), NONE);
    C.due("GROSS of 882", x.gross(0, 0, 2, 882), 998);
    C.due("GROSS of 881", x.gross(0, 0, 2, 881), 997);
    C.due("of 998 is", x.best(0, 0, 2, 998, 0), 882);
    C.due("of 997 is", x.best(0, 0, 2, 997, 0), 881);
    C.due("GROSS of what a million brings", x.gross(0, 0, 2, 882000), 999998);
    C.due("of one less", x.best(0, 0, 2, 999997, 0), 881999);
    C.due("GROSS of one more", x.gross(0, 0, 2, 882001), NONE);
    C.due("GROSS of a million", x.gross(0, 0, 2, 1000000), NONE);
    C.due("GROSS of 0", x.gross(0, 0, 2, 0), NONE);
    C.due("GROSS of more", x.gross(0, 0, 2, 1000001), NONE);
    C.due("GROSS, no WAY", x.gross(0, 2, 0, 1), NONE);
    TreatyRouter loans = Check.of(LOANS);
    loans.pay(1, 0, 2, 1000);
    loans.pass(10);
    C.due("TAKE of DUE", loans.take(1, 0, 2, 1000, 1), 50);
    C.due("TWICE: CREDIT only once", loans.twice(1, 0, 2, 1000), 1700);
    C.due("nothing has changed", loans.firm(1, 2), 100);
    C.due("nothing has changed", loans.all(3), 700);
  }

  private static void worthOfLinks() {
    TreatyRouter x = Check.of(BOOK);
    int[] due = {2, 2, 0, 0};
    for (int k = 0; k < 4; k++) C.due("WORTH " + k, x.worth(0, 0, 2, 1000, k), due[k]);
    C.due("WORTH of the only one", x.worth(1, 0, 2, 1000, 3), 970);
    C.due("WORTH, no LINK", x.worth(0, 0, 2, 1000, 4), NONE);
    C.due("WORTH, no LINK", x.worth(0, 0, 2, 1000, -1), NONE);
    C.due("WORTH, no WAY", x.worth(0, 2, 0, 1000, 0), NONE);
    C.due("LINKS are as they were", x.count(6), 4);
    C.due("LINKS are as they were", x.link(0, 3), 30);
  }

  private static void scripts() {
    TreatyRouter x = new TreatyRouter();
    Check.feed(x, "pay 1 0 2 1000;pass 5;staff 1 7;own 2 1 30;lend 2 1;pay 0 2 0 5;pass 1");
    C.due("text(1)", x.text(1), 0);
    C.due("run without a BOOK", x.run(0, 0), HIDDEN);
    C.due("perform without a BOOK", x.perform(0), NONE);
    C.due("no STATUS", x.status(0), 0);
    int[][] due = {{0, 1, 0, 2, 1000}, {1, 5, NONE, NONE, NONE}, {2, 1, 7, NONE, NONE}, {3, 2, 1, 30, NONE}, {4, 2, 1, NONE, NONE}};
    for (int i = 0; i < 5; i++) for (int what = 0; what < 5; what++) C.due("step " + i + " " + what, x.step(0, i, what), due[i][what]);
    C.due("step 7", x.step(0, 7, 0), HIDDEN);
    C.due("step -1", x.step(0, -1, 0), HIDDEN);
    C.due("step, what 5", x.step(0, 0, 5), HIDDEN);
    C.due("step, what -1", x.step(0, 0, -1), HIDDEN);
    C.due("step, no SCRIPT", x.step(1, 0, 0), HIDDEN);
    C.due("step, no SCRIPT", x.step(-1, 0, 0), HIDDEN);
    Check.feed(x, LOANS);
    C.due("text(0)", x.text(0), 3);
    C.due("RUN", x.run(0, 0), 5);
    C.due("RUN, TAKEN", x.run(0, 1), 300);
    C.due("RUN, what 2", x.run(0, 2), HIDDEN);
    C.due("RUN, no SCRIPT", x.run(1, 0), HIDDEN);
    C.due("nothing has changed", x.all(0), 50);
    C.due("nothing has changed", x.count(3), 0);
    C.due("DO", x.perform(0), 5);
    C.due("no STATUS", x.status(2), 0);
    C.due("YEAR", x.all(0), 55);
    C.due("ACTS", x.count(4), 5);
    C.due("LOG", x.log(4, 1), 700);
    C.due("DO again: no loan", x.perform(0), 0);
    C.due("RUN again", x.run(0, 0), 0);
    C.due("RUN again, TAKEN", x.run(0, 1), 300);
    C.due("DO, no SCRIPT", x.perform(1), NONE);
    Check.feed(x, "pass 20; pass 20");
    C.due("text(1)", x.text(1), 1);
    C.due("RUN: all can be", x.run(1, 0), NONE);
    C.due("DO: all", x.perform(1), 2);
    C.due("YEAR", x.all(0), 95);
    Check.feed(x, "pass 1;pass 1;pass 1;pass 1;pass 1;pass 1;pass 1;pass 1;pass 1;pass 1;pass 1;pass 1");
    C.due("text(1)", x.text(1), 2);
    C.due("RUN of twelve", x.run(2, 0), NONE);
    C.due("DO of twelve", x.perform(2), 12);
    C.due("YEAR", x.all(0), 107);
  }

  /** Six LANDS, eight FIRMS, twelve TREATIES: nothing lies behind the last of them. */
  private static void fullBook() {
    StringBuilder b = new StringBuilder();
    for (char c = 'a'; c < 'g'; c++) b.append("land ").append(c).append(" 100 0 0;");
    for (char c = 'p'; c < 'x'; c++) b.append("firm ").append(c).append(c > 'u' ? " f 9;" : " a 1;");
    b.append("owns w p 30 0;");
    for (int i = 0; i < 10; i++) b.append("ends a b 0;");
    TreatyRouter x = Check.of(b + "treaty a f 0 0 0 0 0 0 50 0;ends b c 0");
    C.due("FIRMS", x.count(0), 8);
    C.due("LANDS", x.count(5), 6);
    C.due("best", x.best(0, 0, 7, 1000, 0), 900);
    C.due("ARTICLE", x.stop(0, 0, 7, 1000, 0, 2), 2);
    C.due("HIRE", x.hire(0, 0, 7, 1000, 7), 50);
    C.due("pay", x.pay(0, 0, 7, 1000), 900);
    C.due("TAKEN", x.all(2), 100);
    C.due("GOT", x.all(3), 900);
    C.due("TREATIES", x.all(5), 1);
    C.due("most STAFF", x.all(6), 6);
    C.due("KEY", x.key(0, 0, 7, 1000), 1);
    C.due("LAPSED", x.lapsed(0, 0, 7, 1000, 5, 0), 900);
    C.due("years", x.years(40, 7) >= 50, true);
  }

  private static void allAndCount() {
    TreatyRouter x = Check.of(BOOK);
    int[] due = {50, 0, 0, 0, 4, 3, 2, 0, 0};
    for (int what = 0; what < 9; what++) C.due("all " + what, x.all(what), due[what]);
    C.due("all(9)", x.all(9), HIDDEN);
    C.due("all(-1)", x.all(-1), HIDDEN);
    int[] counts = {3, 0, 0, 0, 0, 3, 4};
    for (int what = 0; what < 7; what++) C.due("count " + what, x.count(what), counts[what]);
    C.due("count(7)", x.count(7), HIDDEN);
    C.due("count(-1)", x.count(-1), HIDDEN);
    x.staff(0, 9);
    C.due("most STAFF: the lowest", x.all(6), 0);
    TreatyRouter loans = Check.of(LOANS);
    C.due("TREATIES in force", loans.all(5), 0);
    loans.pay(1, 0, 2, 1000);
    C.due("CREDIT of all", loans.all(1), 100);
    C.due("TAKEN of all", loans.all(2), 300);
    C.due("GOT of all", loans.all(3), 700);
    C.due("most CREDIT", loans.all(7), 1);
    loans.pass(10);
    C.due("TREATIES in force", loans.all(5), 1);
  }

  private static void images() {
    TreatyRouter x = Check.of(LOANS);
    C.due("back: no IMAGE", x.back(), NONE);
    x.pay(1, 0, 2, 1000);
    x.staff(1, 4);
    C.due("image", x.image(), 50);
    C.due("image takes no ACT away", x.count(4), 2);
    x.pass(10);
    x.staff(1, 5);
    x.own(0, 1, 7);
    x.lend(1, 0);
    x.pay(1, 1, 2, 10);
    x.staff(0, 200);
    C.due("back", x.back(), 50);
    C.due("STAFF", x.firm(1, 1), 4);
    C.due("CREDIT", x.firm(1, 2), 100);
    C.due("GOT", x.firm(2, 3), 700);
    C.due("TAKEN", x.land(0, 3), 300);
    C.due("LINKS", x.count(6), 2);
    C.due("the loan", x.link(0, 1), 1);
    C.due("LOG", x.count(3), 2);
    C.due("LOG's latest", x.log(0, 0), 2);
    C.due("no ACT can be UNDONE", x.undo(), NONE);
    C.due("STATUS stays", x.status(1), 1);
    x.pass(1);
    C.due("back again", x.back(), 50);
    x.pass(5);
    C.due("another image", x.image(), 55);
    x.pass(5);
    C.due("back to that", x.back(), 55);
    C.due("undo behind back", x.undo(), NONE);
    x.pass(1);
    C.due("undo of what came then", x.undo(), 0);
    C.due("YEAR", x.all(0), 55);
  }
}
