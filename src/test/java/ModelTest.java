import java.util.Random;

/** Long runs of drawn calls, each answer compared with that of the plain model; nothing may be thrown. */
public final class ModelTest {
  private static final Check CHECK = new Check();
  private static Random draw;
  private static TreatyRouter x;
  private static Model m;
  private static String trail = "";

  public static void main(String[] args) {
    int runs = args.length > 0 ? Integer.parseInt(args[0]) : 400;
    int first = args.length > 1 ? Integer.parseInt(args[1]) : 1;
    for (int run = first; run < first + runs && CHECK.wrong() < 20; run++) {
      draw = new Random(run);
      x = new TreatyRouter();
      m = new Model();
      if (draw.nextInt(8) > 0) feedBook();
      if (draw.nextInt(3) > 0) feedScript();
      for (int call = 0; call < 430; call++) {
        trail = "run " + run + ", call " + call + ": ";
        oneCall();
      }
    }
    texts(runs * 20);
    CHECK.finish("ModelTest");
  }

  private static void due(String call, int got, int want) {
    CHECK.due(trail + call, got, want);
  }

  /** Mostly 0 to n - 1, at times just outside, seldom far away. */
  private static int near(int n) {
    int d = draw.nextInt(60);
    if (d == 0) return -1;
    if (d == 1) return n;
    if (d == 2) return draw.nextBoolean() ? Integer.MIN_VALUE : Integer.MAX_VALUE;
    return draw.nextInt(Math.max(1, n));
  }

  private static int amount() {
    switch (draw.nextInt(12)) {
      case 0: return draw.nextInt(4) - 1;
      case 1: return 1000000 + draw.nextInt(2);
      case 2: return near(1000000);
      case 3: return 999000 + draw.nextInt(1000);
      default: return 1 + draw.nextInt(5000);
    }
  }

  private static void feed(String text) {
    for (int at = 0; at < text.length(); at += 20) {
      int[] n = new int[5];
      for (int i = 0; i < 20 && at + i < text.length(); i++) n[i / 4] |= (text.charAt(at + i) & 255) << 24 - 8 * (i % 4);
      due("feed", x.feed(n[0], n[1], n[2], n[3], n[4]), m.feed(n[0], n[1], n[2], n[3], n[4]));
    }
  }

  private static void feedBook() {
    String text = bookText();
    for (int tries = 0; tries < 40 && !isBook(text); tries++) text = bookText();
    if (draw.nextInt(12) == 0) text = damaged(text);
    due("end(0)", x.end(0) ? 1 : 0, m.end(0) ? 1 : 0);
    feed(text);
    due("fault(0)", x.fault(0), m.fault(0));
    due("text(0) " + text, x.text(0), m.text(0));
  }

  private static boolean isBook(String text) {
    try {
      return text.length() <= 400 && Model.book(text).links.size() > 2;
    } catch (Model.Broken e) {
      return false;
    }
  }

  private static void feedScript() {
    String text = scriptText();
    if (draw.nextInt(6) == 0) text = damaged(text);
    due("end(0)", x.end(0) ? 1 : 0, m.end(0) ? 1 : 0);
    feed(text);
    due("fault(1)", x.fault(1), m.fault(1));
    due("text(1) " + text, x.text(1), m.text(1));
  }

  private static String gap() {
    return draw.nextInt(12) == 0 ? "  " : " ";
  }

  private static int rate() {
    return draw.nextInt(4) == 0 ? draw.nextInt(1001) : draw.nextInt(8) * 25;
  }

  /** A BOOK that may be too long, or tell a name twice, but mostly is fine. */
  static String bookText() {
    StringBuilder b = new StringBuilder();
    int lands = draw.nextInt(4) == 0 ? 1 + draw.nextInt(7) : 2 + draw.nextInt(3);
    int firms = draw.nextInt(4) == 0 ? 1 + draw.nextInt(9) : 4 + draw.nextInt(4);
    if (draw.nextInt(3) == 0) b.append("year").append(gap()).append(draw.nextInt(101)).append(';');
    for (int i = 0; i < lands; i++) b.append("land ").append((char) ('a' + i)).append(gap()).append(rate()).append(' ').append(rate()).append(' ').append(rate()).append(';');
    for (int i = 0; i < firms; i++) b.append("firm ").append((char) ('p' + i)).append(' ').append((char) ('a' + draw.nextInt(lands))).append(draw.nextInt(12)).append(';');
    java.util.Set<String> told = new java.util.HashSet<>();
    int more = draw.nextInt(6) == 0 ? draw.nextInt(34) : 8 + draw.nextInt(16);
    for (int i = 0; i < more && b.length() < 375; i++) {
      int d = draw.nextInt(10);
      char f = (char) ('p' + draw.nextInt(firms));
      char g = other(f, 'p', firms);
      char k = (char) ('a' + draw.nextInt(lands));
      char l = other(k, 'a', lands);
      if (d < 7 && firms > 1 && !told.add((d < 4 ? "o" : "l") + f + g) && draw.nextInt(90) > 0) continue;
      if (d < 4 && firms > 1) b.append("owns ").append(f).append(' ').append(g).append(' ').append(share()).append(' ').append(30 + draw.nextInt(28)).append(';');
      else if (d < 7 && firms > 1) b.append("lends ").append(f).append(' ').append(g).append(' ').append(30 + draw.nextInt(28)).append(';');
      else if (d == 9 && lands > 1 && draw.nextInt(3) == 0) b.append("ends ").append(k).append(' ').append(l).append(' ').append(30 + draw.nextInt(40)).append(';');
      else if (d > 6 && lands > 1) b.append(treatyText(k, l));
    }
    b.setLength(b.length() - 1);
    return b.toString();
  }

  /** Seldom the same one. */
  private static char other(char one, char first, int count) {
    return (char) (first + (one - first + (draw.nextInt(200) == 0 ? 0 : 1) + draw.nextInt(Math.max(1, count - 1))) % count);
  }

  private static int share() {
    return draw.nextInt(3) == 0 ? 1 + draw.nextInt(100) : 15 + draw.nextInt(20);
  }

  private static String treatyText(char k, char l) {
    return "treaty " + k + " " + l + " " + (draw.nextInt(3) == 0 ? 45 + draw.nextInt(25) : draw.nextInt(50)) + " " + rate() + " " + rate() + " " + rate()
        + " " + draw.nextInt(30) + " " + draw.nextInt(18) + " " + draw.nextInt(8) + " " + draw.nextInt(3) + ";";
  }

  static String scriptText() {
    StringBuilder b = new StringBuilder();
    int steps = 1 + draw.nextInt(draw.nextInt(6) == 0 ? 14 : 9);
    for (int i = 0; i < steps; i++) {
      if (i > 0) b.append(draw.nextInt(9) == 0 ? " ; " : ";");
      int f = draw.nextInt(5);
      int g = draw.nextInt(5);
      switch (draw.nextInt(5)) {
        case 0: b.append("pay ").append(draw.nextInt(2)).append(' ').append(f).append(' ').append(g).append(gap()).append(1 + draw.nextInt(9999)); break;
        case 1: b.append("pass ").append(1 + draw.nextInt(draw.nextInt(9) == 0 ? 30 : 6)); break;
        case 2: b.append("staff").append(f).append(' ').append(draw.nextInt(draw.nextInt(9) == 0 ? 200 : 12)); break;
        case 3: b.append("own ").append(f).append(' ').append(g).append(' ').append(draw.nextInt(draw.nextInt(9) == 0 ? 200 : 101)); break;
        default: b.append("lend ").append(f).append(' ').append(g); break;
      }
    }
    return b.toString();
  }

  private static String damaged(String text) {
    StringBuilder b = new StringBuilder(text);
    for (int n = draw.nextInt(3); n >= 0 && b.length() > 0; n--) {
      int at = draw.nextInt(b.length());
      String some = "abcxyz0199 ;;  ,A\u00ff/:`{landfirmownslendsyear";
      switch (draw.nextInt(5)) {
        case 0: b.deleteCharAt(at); break;
        case 1: b.insert(at, some.charAt(draw.nextInt(some.length()))); break;
        case 2: b.setCharAt(at, some.charAt(draw.nextInt(some.length()))); break;
        case 3: b.setLength(at); break;
        default: b.append(draw.nextBoolean() ? ";" : " "); break;
      }
    }
    return b.toString();
  }

  /** Texts alone, each on an object of its own: FAULTS as the model's. */
  private static void texts(int count) {
    draw = new Random(count);
    for (int i = 0; i < count && CHECK.wrong() < 20; i++) {
      boolean isBook = draw.nextInt(3) > 0;
      String text = isBook ? bookText() : scriptText();
      if (draw.nextInt(3) > 0) text = damaged(text);
      if (text.length() > 400) text = text.substring(0, 400);
      x = new TreatyRouter();
      m = new Model();
      trail = "'" + text + "': ";
      feed(text);
      due("fault(0)", x.fault(0), m.fault(0));
      due("fault(1)", x.fault(1), m.fault(1));
      int sort = isBook ? 0 : 1;
      due("text", x.text(sort), m.text(sort));
      for (int what = -1; what < 8; what++) due("count " + what, x.count(what), m.count(what));
    }
  }

  private static void oneCall() {
    int s = near(2);
    int f = near(m.now.book == null ? 3 : m.now.book.firms.size());
    int t = near(m.now.book == null ? 3 : m.now.book.firms.size());
    int g = near(m.now.book == null ? 3 : m.now.book.firms.size());
    int k = near(m.now.book == null ? 3 : m.now.book.lands.size());
    int l = near(m.now.book == null ? 3 : m.now.book.lands.size());
    // Mostly two FIRMS with a WAY between them, so that there is something to answer.
    for (int tries = 0; tries < 12 && m.loops(s, f, t) < 1 && draw.nextInt(15) > 0; tries++) {
      s = draw.nextInt(2);
      f = near(m.now.book == null ? 3 : m.now.book.firms.size());
      t = near(m.now.book == null ? 3 : m.now.book.firms.size());
    }
    int a = amount();
    int w;
    switch (draw.nextInt(60)) {
      case 0: w = near(4); due("land", x.land(k, w), m.land(k, w)); break;
      case 1: case 2: w = near(5); due("firm", Check.firm(x, f, w), m.firm(f, w)); break;
      case 3: w = near(3); due("name", x.name(s, f, w), m.name(s, f, w)); break;
      case 4: case 5: w = near(5); int n = near(m.now.links.size()); due("link", x.link(n, w), m.link(n, w)); break;
      case 6: case 7: w = near(8); int y = near(200); due("treaty", x.treaty(k, l, y, w), m.treaty(k, l, y, w)); break;
      case 8: case 9: w = near(2); due("hop", x.hop(s, f, t, g, w), m.hop(s, f, t, g, w)); break;
      case 10: case 11: case 12: w = near(4); due("best", x.best(s, f, t, a, w), m.best(s, f, t, a, w)); break;
      case 13: case 14: w = near(5); int i = near(4); due("stop", x.stop(s, f, t, a, i, w), m.stop(s, f, t, a, i, w)); break;
      case 15: spellAll(s, f, t, a); break;
      case 16: case 17: case 18: case 19: case 20: due("pay", x.pay(s, f, t, a), m.byHand(0, s, f, t, a)); break;
      case 21: w = near(draw.nextInt(4) == 0 ? 24 : 6); due("pass", x.pass(w), m.byHand(1, w)); break;
      case 22: case 23: w = near(draw.nextInt(4) == 0 ? 101 : 12); due("staff", x.staff(f, w), m.byHand(2, f, w)); break;
      case 24: case 25: w = near(draw.nextInt(4) == 0 ? 103 : 40); due("own", x.own(f, t, w), m.byHand(3, f, t, w)); break;
      case 26: case 27: due("lend", x.lend(f, t), m.byHand(4, f, t)); break;
      case 28: w = near(draw.nextInt(3) == 0 ? 42 : 6); long seed = draw.nextLong(); due("years", x.years(w, seed), m.years(w, seed)); break;
      case 29: w = near(4); due("status", x.status(w), m.status(w)); break;
      case 30: for (int j = draw.nextInt(draw.nextInt(5) == 0 ? 45 : 4); j >= 0; j--) due("undo", x.undo(), m.undo()); break;
      case 31: case 32: w = near(3); int e = near(draw.nextBoolean() ? 4 : 62); due("log", x.log(e, w), m.log(e, w)); break;
      case 33: w = near(2); int z = near(200); due("asOf", x.asOf(s, f, t, a, z, w), m.asOf(s, f, t, a, z, w)); break;
      case 34: due("hire", x.hire(s, f, t, a, g), m.hire(s, f, t, a, g)); break;
      case 35: due("without", x.without(s, f, t, a, g), m.without(s, f, t, a, g)); break;
      case 36: due("key", x.key(s, f, t, a), m.key(s, f, t, a)); break;
      case 37: case 38: due("lapsed", x.lapsed(s, f, t, a, k, l), m.lapsed(s, f, t, a, k, l)); break;
      case 39: due("soon", x.soon(s, f, t, a), m.soon(s, f, t, a)); break;
      case 40: due("loops", x.loops(s, f, t), m.loops(s, f, t)); break;
      case 41: case 42: w = near(3); due("least", x.least(s, f, t, a, w), m.least(s, f, t, a, w)); break;
      case 43: due("direct", x.direct(s, f, t, a), m.direct(s, f, t, a)); break;
      case 44: case 45: due("take", x.take(s, f, t, a, k), m.take(s, f, t, a, k)); break;
      case 46: due("twice", x.twice(s, f, t, a), m.twice(s, f, t, a)); break;
      case 47: grossOf(s, f, t, a); break;
      case 48: case 49: w = near(m.now.links.size()); due("worth", x.worth(s, f, t, a, w), m.worth(s, f, t, a, w)); break;
      case 50: w = near(5); int q = near(4); int r = near(10); due("step", x.step(q, r, w), m.step(q, r, w)); break;
      case 51: w = near(2); int u = near(m.scripts.size()); due("run", x.run(u, w), m.run(u, w)); break;
      case 52: w = near(m.scripts.size()); due("perform", x.perform(w), m.perform(w)); break;
      case 53: case 54: w = near(9); due("all", x.all(w), m.all(w)); break;
      case 55: due("image", x.image(), m.image()); break;
      case 56: if (draw.nextInt(4) == 0) due("back", x.back(), m.back()); break;
      case 57: w = near(7); due("count", x.count(w), m.count(w)); break;
      case 58: textCall(); break;
      default: everything(); break;
    }
  }

  private static void textCall() {
    switch (draw.nextInt(10)) {
      case 0: feedBook(); break;
      case 1: feedScript(); break;
      case 2: int w = near(3); due("text", x.text(w), m.text(w)); break;
      case 3: int v = near(3); due("fault", x.fault(v), m.fault(v)); break;
      case 4: int e = near(m.tape.length() + 1); due("end", x.end(e) ? 1 : 0, m.end(e) ? 1 : 0); break;
      default: int a = draw.nextInt(); due("feed", x.feed(a, 0, a & 0xff00ff, 7, 0x20202020), m.feed(a, 0, a & 0xff00ff, 7, 0x20202020)); break;
    }
  }

  private static void spellAll(int s, int f, int t, int a) {
    int n = m.spell(s, f, t, a, -1);
    for (int i = -2; i <= n + 1; i++) due("spell " + i, x.spell(s, f, t, a, i), m.spell(s, f, t, a, i));
  }

  /** Low sums by trying every amount; high ones by what the amount found and the one ahead of it bring. */
  private static void grossOf(int s, int f, int t, int a) {
    int sum = draw.nextInt(3) == 0 ? a : Math.min(a, 400);
    int got = x.gross(s, f, t, sum);
    if (sum <= 400 && (got == -1 || got < 4000)) {
      due("gross " + sum, got, m.gross(s, f, t, sum));
    } else if (got == -1) {
      due("gross " + sum + " can't be", m.best(s, f, t, 1000000, 0) < sum || sum > 1000000 ? 1 : 0, 1);
    } else {
      due("gross " + sum + " brings it", m.best(s, f, t, got, 0) >= sum ? 1 : 0, 1);
      due("gross " + sum + " less does not", got > 1 && m.best(s, f, t, got - 1, 0) >= sum ? 1 : 0, 0);
    }
  }

  /** The whole state. */
  private static void everything() {
    for (int w = -1; w <= 9; w++) due("all " + w, x.all(w), m.all(w));
    for (int w = -1; w <= 7; w++) due("count " + w, x.count(w), m.count(w));
    for (int f = 0; f < 9; f++) for (int w = 0; w < 5; w++) due("firm " + f + " " + w, Check.firm(x, f, w), m.firm(f, w));
    for (int k = 0; k < 7; k++) for (int w = 0; w < 4; w++) due("land " + k + " " + w, x.land(k, w), m.land(k, w));
    for (int k = 0; k < 17; k++) for (int w = 0; w < 5; w++) due("link " + k + " " + w, x.link(k, w), m.link(k, w));
    for (int i = 0; i < 61; i++) for (int w = 0; w < 3; w++) due("log " + i + " " + w, x.log(i, w), m.log(i, w));
    for (int w = 0; w < 4; w++) due("status " + w, x.status(w), m.status(w));
  }
}
