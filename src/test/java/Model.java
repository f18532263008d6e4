import java.util.ArrayList;
import java.util.List;
import java.util.Set;

/** The document once more, written plainly and wastefully with Java's library, to compare the class with. */
final class Model {
  static final int NONE = -1;
  static final int HIDDEN = -1000000;
  static final Set<String> WORDS = Set.of("land", "firm", "owns", "lends", "treaty", "ends", "year", "pay", "pass", "staff", "own", "lend");

  record Land(String name, int[] law) { }
  record Firm(String name, int land, int staff) { }
  record Link(int sort, int a, int b, int share, int since) { }
  record Treaty(int a, int b, boolean ends, int[] told) { }
  record Act(int sort, int number, int firm) { }
  record Leg(int firm, int rate, int article, int paid, int held, int due, int credit) { }
  record Step(int what, int[] numbers) { }

  static final class Broken extends RuntimeException {
    private static final long serialVersionUID = 1;
    final int where;
    Broken(int where) { this.where = where; }
  }

  static final class Book {
    final List<Land> lands = new ArrayList<>();
    final List<Firm> firms = new ArrayList<>();
    final List<Link> links = new ArrayList<>();
    final List<Treaty> treaties = new ArrayList<>();
    int year = NONE;

    Treaty treaty(int a, int b, int year) {
      Treaty best = null;
      for (int from = 0; from <= year; from++) {
        for (Treaty t : treaties) {
          if (t.told[0] == from && Set.of(t.a, t.b).equals(a == b ? Set.of(-5) : Set.of(a, b))) best = t;
        }
      }
      return best == null || best.ends ? null : best;
    }
  }

  static final class World {
    Book book;
    int year;
    List<Link> links = new ArrayList<>();
    int[] staff, credit, got, taken;
    List<Act> log = new ArrayList<>();
    Set<Integer> lapsed = Set.of();

    World copy() {
      World w = new World();
      w.book = book;
      w.year = year;
      w.links = new ArrayList<>(links);
      w.staff = staff.clone();
      w.credit = credit.clone();
      w.got = got.clone();
      w.taken = taken.clone();
      w.log = new ArrayList<>(log);
      return w;
    }

    Treaty treaty(int a, int b) {
      return a != b && Set.of(a, b).equals(lapsed) ? null : book.treaty(a, b, year);
    }

    int land(int firm) {
      return book.firms.get(firm).land;
    }

    Link link(int sort, int a, int b) {
      for (Link l : links) if (l.sort == sort && l.a == a && l.b == b) return l;
      return null;
    }

    /** RATE, ARTICLE or null. */
    int[] hop(int sort, int x, int y, int owner) {
      Link l = link(sort, y, x);
      if (l == null || l.since > year) return null;
      if (land(x) == land(y)) return new int[] {0, 0};
      int law = book.lands.get(land(x)).law[sort];
      Treaty t = treaty(land(x), land(y));
      if (t == null) return new int[] {law, 1};
      if (staff[y] < t.told[6]) return new int[] {law, 2};
      if (t.told[7] == 1 && land(owner) != land(y)) return new int[] {law, 3};
      if (t.told[7] == 2 && land(owner) != land(x) && treaty(land(owner), land(x)) == null) return new int[] {law, 3};
      if (sort == 1) return new int[] {t.told[3], 0};
      if (l.share < t.told[4]) return new int[] {t.told[2], 4};
      if (year - l.since < t.told[5]) return new int[] {t.told[2], 5};
      return new int[] {t.told[1], 0};
    }

    List<List<Integer>> ways(int sort, int from, int to) {
      List<List<Integer>> out = new ArrayList<>();
      grow(sort, to, List.of(from), out);
      return out;
    }

    private void grow(int sort, int to, List<Integer> way, List<List<Integer>> out) {
      int last = way.get(way.size() - 1);
      if (last == to) {
        out.add(way);
        return;
      }
      if (way.size() == 6) return;
      for (int y = 0; y < book.firms.size(); y++) {
        if (!way.contains(y) && hop(sort, last, y, to) != null) {
          List<Integer> longer = new ArrayList<>(way);
          longer.add(y);
          grow(sort, to, longer, out);
        }
      }
    }

    List<Leg> walk(int sort, List<Integer> way, int amount) {
      List<Leg> out = new ArrayList<>();
      long paid = amount;
      int owner = way.get(way.size() - 1);
      for (int i = 1; i < way.size(); i++) {
        int x = way.get(i - 1);
        int y = way.get(i);
        int[] h = hop(sort, x, y, owner);
        long held = paid * h[0] / 1000;
        long due = 0;
        long after = credit[y];
        if (y != owner && !(sort == 0 && link(0, y, x).share >= 25)) {
          due = paid * book.lands.get(land(y)).law[2] / 1000;
          long can = held + credit[y];
          long off = due < can ? due : can;
          due -= off;
          after = can - off > 1000000000 ? 1000000000 : can - off;
        }
        out.add(new Leg(y, h[0], h[1], (int) paid, (int) held, (int) due, (int) after));
        paid = paid - held - due;
      }
      return out;
    }

    static int held(List<Leg> legs) {
      return legs.stream().mapToInt(Leg::held).sum();
    }

    static int arrives(List<Leg> legs) {
      Leg l = legs.get(legs.size() - 1);
      return l.paid - l.held;
    }

    /** All WAYS sorted by the document's rules; the first, or null. */
    List<Leg> best(int sort, int from, int to, int amount, boolean sparing, int without) {
      List<List<Leg>> all = new ArrayList<>();
      for (List<Integer> way : ways(sort, from, to)) if (!way.contains(without)) all.add(walk(sort, way, amount));
      all.sort((p, q) -> {
        int c = sparing ? held(p) - held(q) : arrives(q) - arrives(p);
        if (c == 0) c = p.size() - q.size();
        for (int i = 0; c == 0 && i < p.size(); i++) c = p.get(i).firm - q.get(i).firm;
        return c;
      });
      return all.isEmpty() ? null : all.get(0);
    }

    int most(int sort, int from, int to, int amount) {
      List<Leg> b = best(sort, from, to, amount, false, NONE);
      return b == null ? NONE : arrives(b);
    }

    int[] takes(int from, List<Leg> legs) {
      int[] out = new int[book.lands.size()];
      int x = from;
      for (Leg l : legs) {
        out[land(x)] += l.held;
        out[land(l.firm)] += l.due;
        x = l.firm;
      }
      return out;
    }

    boolean isFirm(int f) {
      return book != null && f >= 0 && f < book.firms.size();
    }

    /** STATUS of an ACT that is refused, or -1 behind one that is done (its number in the LOG). */
    int act(int sort, int... n) {
      int[] a = java.util.Arrays.copyOf(n, 4);
      switch (sort) {
        case 0: {
          if (!isFirm(a[1]) || !isFirm(a[2])) return 0;
          if (a[0] < 0 || a[0] > 1 || a[3] < 1 || a[3] > 1000000) return 1;
          if (a[1] == a[2]) return 2;
          List<Leg> b = best(a[0], a[1], a[2], a[3], false, NONE);
          if (b == null) return 2;
          int[] t = takes(a[1], b);
          for (int i = 0; i < t.length; i++) taken[i] += t[i];
          for (Leg l : b) credit[l.firm] = l.credit;
          got[a[2]] += arrives(b);
          log.add(new Act(0, arrives(b), a[2]));
          return -1;
        }
        case 1:
          if (book == null) return 0;
          if (a[0] < 1 || a[0] > 20) return 1;
          if (year + a[0] > 199) return 3;
          year += a[0];
          log.add(new Act(1, year, NONE));
          return -1;
        case 2:
          if (!isFirm(a[0])) return 0;
          if (a[1] < 0 || a[1] > 99) return 1;
          if (staff[a[0]] == a[1]) return 2;
          log.add(new Act(2, staff[a[0]], a[0]));
          staff[a[0]] = a[1];
          return -1;
        case 3: {
          if (!isFirm(a[0]) || !isFirm(a[1])) return 0;
          if (a[2] < 0 || a[2] > 100) return 1;
          if (a[0] == a[1]) return 2;
          Link l = link(0, a[0], a[1]);
          int was = l == null ? 0 : l.share;
          if (was == a[2]) return 2;
          if (l == null && links.size() == 16) return 3;
          if (l == null) links.add(new Link(0, a[0], a[1], a[2], year));
          else if (a[2] == 0) links.remove(l);
          else links.set(links.indexOf(l), new Link(0, a[0], a[1], a[2], l.since));
          log.add(new Act(3, was, a[0]));
          return -1;
        }
        default: {
          if (!isFirm(a[0]) || !isFirm(a[1])) return 0;
          if (a[0] == a[1]) return 2;
          Link l = link(1, a[0], a[1]);
          if (l == null && links.size() == 16) return 3;
          if (l == null) links.add(new Link(1, a[0], a[1], 0, year));
          else links.remove(l);
          log.add(new Act(4, l == null ? 1 : 0, a[0]));
          return -1;
        }
      }
    }
  }

  final StringBuilder tape = new StringBuilder();
  World now = new World();
  final List<List<Step>> scripts = new ArrayList<>();
  final List<World> undo = new ArrayList<>();
  World image = null;
  final int[] status = new int[4];

  // ---- texts

  private static final class Parts {
    final String text;
    int at = 0;
    int start = 0;

    Parts(String text) { this.text = text; }

    private void blanks() {
      while (at < text.length() && text.charAt(at) == ' ') at++;
      start = at;
    }

    private String run(char low, char high) {
      blanks();
      while (at < text.length() && text.charAt(at) >= low && text.charAt(at) <= high) at++;
      if (at == start) throw new Broken(start);
      return text.substring(start, at);
    }

    String word() {
      String w = run('a', 'z');
      if (w.length() > 8) throw new Broken(start);
      return w;
    }

    int number(int low, int high) {
      java.math.BigInteger n = new java.math.BigInteger(run('0', '9'));
      if (n.bitLength() > 20 || n.intValue() < low || n.intValue() > high) throw new Broken(start);
      return n.intValue();
    }

    boolean end() {
      blanks();
      return at == text.length();
    }

    void semicolon() {
      blanks();
      if (text.charAt(at) != ';') throw new Broken(at);
      at++;
    }
  }

  static Book book(String text) {
    Book b = new Book();
    Parts p = new Parts(text);
    line(b, p);
    while (!p.end()) {
      p.semicolon();
      line(b, p);
    }
    if (b.firms.isEmpty()) throw new Broken(text.length());
    if (b.year == NONE) b.year = 50;
    return b;
  }

  private static int landNamed(Book b, Parts p) {
    String w = p.word();
    for (int i = 0; i < b.lands.size(); i++) if (b.lands.get(i).name.equals(w)) return i;
    throw new Broken(p.start);
  }

  private static int firmNamed(Book b, Parts p) {
    String w = p.word();
    for (int i = 0; i < b.firms.size(); i++) if (b.firms.get(i).name.equals(w)) return i;
    throw new Broken(p.start);
  }

  private static String fresh(Book b, Parts p) {
    String w = p.word();
    boolean told = b.lands.stream().anyMatch(l -> l.name.equals(w)) || b.firms.stream().anyMatch(f -> f.name.equals(w));
    if (told || WORDS.contains(w)) throw new Broken(p.start);
    return w;
  }

  private static void line(Book b, Parts p) {
    String w = p.word();
    int word = p.start;
    switch (w) {
      case "land":
        if (b.lands.size() == 6) throw new Broken(word);
        b.lands.add(new Land(fresh(b, p), new int[] {p.number(0, 1000), p.number(0, 1000), p.number(0, 1000)}));
        break;
      case "firm":
        if (b.firms.size() == 8) throw new Broken(word);
        b.firms.add(new Firm(fresh(b, p), landNamed(b, p), p.number(0, 99)));
        break;
      case "owns":
      case "lends": {
        if (b.links.size() == 16) throw new Broken(word);
        int sort = w.equals("owns") ? 0 : 1;
        int one = firmNamed(b, p);
        int two = firmNamed(b, p);
        if (one == two || b.links.stream().anyMatch(l -> l.sort == sort && l.a == one && l.b == two)) throw new Broken(p.start);
        b.links.add(new Link(sort, one, two, sort == 0 ? p.number(1, 100) : 0, p.number(0, 99)));
        break;
      }
      case "treaty":
      case "ends": {
        if (b.treaties.size() == 12) throw new Broken(word);
        int one = landNamed(b, p);
        int two = landNamed(b, p);
        if (one == two) throw new Broken(p.start);
        int[] told = new int[8];
        told[0] = p.number(0, 99);
        if (w.equals("treaty")) {
          for (int i = 1; i <= 3; i++) told[i] = p.number(0, 1000);
          told[4] = p.number(0, 100);
          told[5] = p.number(0, 20);
          told[6] = p.number(0, 99);
          told[7] = p.number(0, 2);
        }
        b.treaties.add(new Treaty(one, two, w.equals("ends"), told));
        break;
      }
      case "year":
        if (b.year != NONE) throw new Broken(word);
        b.year = p.number(0, 99);
        break;
      default:
        throw new Broken(word);
    }
  }

  static List<Step> script(String text) {
    List<Step> out = new ArrayList<>();
    Parts p = new Parts(text);
    while (true) {
      String w = p.word();
      int what = List.of("pay", "pass", "staff", "own", "lend").indexOf(w);
      if (what < 0) throw new Broken(p.start);
      int[] n = new int[new int[] {4, 1, 2, 3, 2}[what]];
      for (int i = 0; i < n.length; i++) n[i] = p.number(0, 9999);
      out.add(new Step(what, n));
      if (p.end()) return out;
      if (out.size() == 12 && text.charAt(p.start) == ';') throw new Broken(p.start);
      p.semicolon();
    }
  }

  int feed(int... n) {
    StringBuilder more = new StringBuilder();
    for (int v : n) for (int s = 24; s >= 0; s -= 8) if ((v >> s & 255) != 0) more.append((char) (v >> s & 255));
    if (tape.length() + more.length() > 400) return NONE;
    tape.append(more);
    return tape.length();
  }

  boolean end(int n) {
    if (n < 0 || n > tape.length()) return false;
    tape.setLength(n);
    return true;
  }

  int fault(int sort) {
    if (sort != 0 && sort != 1) return -2;
    try {
      if (sort == 0) book(tape.toString());
      else script(tape.toString());
      return NONE;
    } catch (Broken e) {
      return e.where;
    }
  }

  int text(int sort) {
    if (sort != 0 && sort != 1 || fault(sort) != NONE || sort == 1 && scripts.size() == 4) return NONE;
    String t = tape.toString();
    tape.setLength(0);
    if (sort == 1) {
      scripts.add(script(t));
      return scripts.size() - 1;
    }
    Book b = book(t);
    now = new World();
    now.book = b;
    now.year = b.year;
    now.links = new ArrayList<>(b.links);
    now.staff = b.firms.stream().mapToInt(Firm::staff).toArray();
    now.credit = new int[b.firms.size()];
    now.got = new int[b.firms.size()];
    now.taken = new int[b.lands.size()];
    undo.clear();
    image = null;
    return b.firms.size();
  }

  // ---- what there is

  private boolean isLand(int l) {
    return now.book != null && l >= 0 && l < now.book.lands.size();
  }

  int land(int land, int what) {
    if (!isLand(land) || what < 0 || what > 3) return NONE;
    return what < 3 ? now.book.lands.get(land).law[what] : now.taken[land];
  }

  int firm(int firm, int what) {
    if (!now.isFirm(firm) || what < 0 || what > 4) return -77;
    int links = (int) now.links.stream().filter(l -> l.a == firm || l.b == firm).count();
    return new int[] {now.land(firm), now.staff[firm], now.credit[firm], now.got[firm], links}[what];
  }

  int name(int sort, int number, int i) {
    String s = sort == 0 && isLand(number) ? now.book.lands.get(number).name : sort == 1 && now.isFirm(number) ? now.book.firms.get(number).name : "";
    return i < 0 || i >= s.length() ? NONE : s.charAt(i);
  }

  int link(int k, int what) {
    if (k < 0 || k >= now.links.size() || what < 0 || what > 4) return NONE;
    Link l = now.links.get(k);
    return new int[] {l.sort, l.a, l.b, l.share, l.since}[what];
  }

  int treaty(int a, int b, int year, int what) {
    if (!isLand(a) || !isLand(b) || year < 0 || year > 199 || what < 0 || what > 7) return NONE;
    Treaty t = now.book.treaty(a, b, year);
    return t == null ? NONE : t.told[what];
  }

  int hop(int sort, int from, int to, int owner, int what) {
    if (sort < 0 || sort > 1 || !now.isFirm(from) || !now.isFirm(to) || !now.isFirm(owner) || what < 0 || what > 1) return NONE;
    int[] h = now.hop(sort, from, to, owner);
    return h == null ? NONE : h[what];
  }

  private boolean bad(int sort, int from, int to, int amount) {
    return sort < 0 || sort > 1 || !now.isFirm(from) || !now.isFirm(to) || from == to || amount < 1 || amount > 1000000;
  }

  private List<Leg> way(int sort, int from, int to, int amount) {
    return bad(sort, from, to, amount) ? null : now.best(sort, from, to, amount, false, NONE);
  }

  int best(int sort, int from, int to, int amount, int what) {
    List<Leg> b = way(sort, from, to, amount);
    if (b == null || what < 0 || what > 3) return NONE;
    return new int[] {World.arrives(b), b.size(), World.held(b), b.stream().mapToInt(Leg::due).sum()}[what];
  }

  int stop(int sort, int from, int to, int amount, int i, int what) {
    List<Leg> b = way(sort, from, to, amount);
    if (b == null || i < 0 || i >= b.size() || what < 0 || what > 4) return NONE;
    Leg l = b.get(i);
    return new int[] {l.firm, l.rate, l.article, l.paid, l.held}[what];
  }

  int spell(int sort, int from, int to, int amount, int i) {
    List<Leg> b = way(sort, from, to, amount);
    if (b == null) return NONE;
    String s = now.book.firms.get(from).name;
    for (Leg l : b) {
      s += " >" + (l.rate % 10 == 0 ? "" + l.rate / 10 : l.rate / 10 + "." + l.rate % 10) + "%" + (l.article == 0 ? "" : "!" + l.article);
      s += " " + now.book.firms.get(l.firm).name;
    }
    return i == NONE ? s.length() : i < 0 || i >= s.length() ? NONE : s.charAt(i);
  }

  // ---- acts

  int byHand(int sort, int... n) {
    World old = now.book == null ? null : now.copy();
    int why = now.act(sort, n);
    if (why != NONE) {
      status[why]++;
      return NONE;
    }
    remember(old);
    return now.log.get(now.log.size() - 1).number;
  }

  private void remember(World old) {
    undo.add(old);
    if (undo.size() > 40) undo.remove(0);
  }

  private boolean quietly(int sort, int... n) {
    World old = now.copy();
    if (now.act(sort, n) != NONE) return false;
    remember(old);
    return true;
  }

  private long x;

  private int draw(int j) {
    x = x * 6364136223846793005L + 1442695040888963407L;
    return (int) ((x >>> 33) % j);
  }

  int years(int n, long seed) {
    if (now.book == null || n < 1 || n > 40) return NONE;
    x = seed;
    int f = now.book.firms.size();
    for (int i = 0; i < n; i++) {
      switch (draw(8)) {
        case 4: quietly(1, draw(5) + 1); break;
        case 5: quietly(2, draw(f), draw(100)); break;
        case 6: quietly(3, draw(f), draw(f), draw(101)); break;
        case 7: quietly(4, draw(f), draw(f)); break;
        default: quietly(0, draw(2), draw(f), draw(f), draw(1000) + 1); break;
      }
    }
    return now.year;
  }

  int status(int what) {
    return what < 0 || what > 3 ? NONE : status[what];
  }

  int undo() {
    if (undo.isEmpty()) return NONE;
    now = undo.remove(undo.size() - 1);
    return undo.size();
  }

  int log(int i, int what) {
    if (i < 0 || i >= 60 || i >= now.log.size() || what < 0 || what > 2) return HIDDEN;
    Act a = now.log.get(now.log.size() - 1 - i);
    return new int[] {a.sort, a.number, a.firm}[what];
  }

  // ---- what would be

  int asOf(int sort, int from, int to, int amount, int year, int what) {
    if (bad(sort, from, to, amount) || year < 0 || year > 199 || what < 0 || what > 1) return NONE;
    World w = now.copy();
    w.year = year;
    List<Leg> b = w.best(sort, from, to, amount, false, NONE);
    return b == null ? NONE : what == 0 ? World.arrives(b) : b.size();
  }

  int hire(int sort, int from, int to, int amount, int firm) {
    if (bad(sort, from, to, amount) || !now.isFirm(firm)) return NONE;
    World w = now.copy();
    int most = NONE;
    int found = NONE;
    for (int n = 0; n < 100; n++) {
      w.staff[firm] = n;
      int m = w.most(sort, from, to, amount);
      if (m > most) {
        most = m;
        found = n;
      }
    }
    return found;
  }

  int without(int sort, int from, int to, int amount, int firm) {
    if (bad(sort, from, to, amount) || !now.isFirm(firm) || firm == from || firm == to) return NONE;
    List<Leg> b = now.best(sort, from, to, amount, false, firm);
    return b == null ? NONE : World.arrives(b);
  }

  int key(int sort, int from, int to, int amount) {
    if (way(sort, from, to, amount) == null) return NONE;
    int found = NONE;
    for (int f = 0; f < now.book.firms.size(); f++) {
      if (f == from || f == to) continue;
      if (found == NONE || without(sort, from, to, amount, f) < without(sort, from, to, amount, found)) found = f;
    }
    return found;
  }

  int lapsed(int sort, int from, int to, int amount, int land, int other) {
    if (bad(sort, from, to, amount) || !isLand(land) || !isLand(other) || land == other) return NONE;
    World w = now.copy();
    w.lapsed = Set.of(land, other);
    return w.most(sort, from, to, amount);
  }

  int soon(int sort, int from, int to, int amount) {
    if (bad(sort, from, to, amount)) return NONE;
    int found = NONE;
    int most = NONE;
    for (int y = now.year; y <= now.year + 20; y++) {
      int m = asOf(sort, from, to, amount, y, 0);
      if (m > most) {
        most = m;
        found = y;
      }
    }
    return found;
  }

  int loops(int sort, int from, int to) {
    return bad(sort, from, to, 1) ? NONE : now.ways(sort, from, to).size();
  }

  int least(int sort, int from, int to, int amount, int what) {
    if (bad(sort, from, to, amount) || what < 0 || what > 2) return NONE;
    List<Leg> b = now.best(sort, from, to, amount, true, NONE);
    return b == null ? NONE : new int[] {World.held(b), b.size(), World.arrives(b)}[what];
  }

  int direct(int sort, int from, int to, int amount) {
    if (bad(sort, from, to, amount) || now.hop(sort, from, to, to) == null) return NONE;
    return World.arrives(now.walk(sort, List.of(from, to), amount));
  }

  int take(int sort, int from, int to, int amount, int land) {
    List<Leg> b = way(sort, from, to, amount);
    return b == null || !isLand(land) ? NONE : now.takes(from, b)[land];
  }

  int twice(int sort, int from, int to, int amount) {
    if (bad(sort, from, to, amount)) return NONE;
    World w = now.copy();
    if (w.act(0, sort, from, to, amount) != NONE) return NONE;
    w.act(0, sort, from, to, amount);
    return w.got[to] - now.got[to];
  }

  /** Every amount from 1 on is tried: of sums that a test can wait for. */
  int gross(int sort, int from, int to, int sum) {
    if (bad(sort, from, to, sum) || now.most(sort, from, to, 1000000) < sum) return NONE;
    for (int a = 1; a <= 1000000; a++) if (now.most(sort, from, to, a) >= sum) return a;
    return NONE;
  }

  int worth(int sort, int from, int to, int amount, int k) {
    List<Leg> b = way(sort, from, to, amount);
    if (b == null || k < 0 || k >= now.links.size()) return NONE;
    World w = now.copy();
    w.links.remove(k);
    int rest = w.most(sort, from, to, amount);
    return World.arrives(b) - (rest == NONE ? 0 : rest);
  }

  int step(int script, int i, int what) {
    if (script < 0 || script >= scripts.size() || i < 0 || i >= scripts.get(script).size() || what < 0 || what > 4) return HIDDEN;
    Step s = scripts.get(script).get(i);
    return what == 0 ? s.what : what <= s.numbers.length ? s.numbers[what - 1] : NONE;
  }

  int run(int script, int what) {
    if (script < 0 || script >= scripts.size() || now.book == null || what < 0 || what > 1) return HIDDEN;
    World w = now.copy();
    int done = 0;
    for (Step s : scripts.get(script)) {
      if (w.act(s.what, s.numbers) != NONE) break;
      done++;
    }
    if (what == 1) return java.util.Arrays.stream(w.taken).sum();
    return done == scripts.get(script).size() ? NONE : done;
  }

  int perform(int script) {
    if (script < 0 || script >= scripts.size() || now.book == null) return NONE;
    int done = 0;
    for (Step s : scripts.get(script)) {
      if (!quietly(s.what, s.numbers)) break;
      done++;
    }
    return done;
  }

  private static int firstMost(int[] a) {
    int found = 0;
    for (int i = 0; i < a.length; i++) if (a[i] > a[found]) found = i;
    return found;
  }

  int all(int what) {
    if (now.book == null || what < 0 || what > 8) return HIDDEN;
    int treaties = 0;
    for (int a = 0; a < now.book.lands.size(); a++) for (int b = 0; b < a; b++) if (now.book.treaty(a, b, now.year) != null) treaties++;
    int later = (int) now.links.stream().filter(l -> l.since > now.year).count();
    return new int[] {now.year, java.util.Arrays.stream(now.credit).sum(), java.util.Arrays.stream(now.taken).sum(),
        java.util.Arrays.stream(now.got).sum(), now.links.size(), treaties, firstMost(now.staff), firstMost(now.credit), later}[what];
  }

  int image() {
    if (now.book == null) return NONE;
    image = now.copy();
    return now.year;
  }

  int back() {
    if (image == null) return NONE;
    now = image.copy();
    undo.clear();
    return now.year;
  }

  int count(int what) {
    if (what < 0 || what > 6) return HIDDEN;
    boolean b = now.book != null;
    return new int[] {b ? now.book.firms.size() : 0, scripts.size(), tape.length(), Math.min(60, now.log.size()), undo.size(),
        b ? now.book.lands.size() : 0, now.links.size()}[what];
  }
}
