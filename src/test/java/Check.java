/** Counts answers that are not as due, and feeds texts. */
final class Check {
  private int wrong = 0;
  private int looked = 0;

  void due(String call, long got, long want) {
    looked++;
    if (got != want) {
      wrong++;
      if (wrong <= 50) System.out.println(call + " answered " + got + ", due is " + want);
    }
  }

  void due(String call, boolean got, boolean want) {
    due(call, got ? 1 : 0, want ? 1 : 0);
  }

  void due(String call, String got, String want) {
    looked++;
    if (!got.equals(want)) {
      wrong++;
      System.out.println(call + " answered '" + got + "', due is '" + want + "'");
    }
  }

  int wrong() {
    return wrong;
  }

  void finish(String what) {
    System.out.println(what + ": " + looked + " answers looked at, " + wrong + " not as due");
    if (wrong != 0 || looked == 0) System.exit(1);
  }

  /** Puts a text behind what the TAPE has: the last feed's answer. */
  static int feed(TreatyRouter x, String text) {
    int answer = x.count(2);
    for (int at = 0; at < text.length(); at += 20) {
      int[] n = new int[5];
      for (int i = 0; i < 20; i++) {
        int b = at + i < text.length() ? text.charAt(at + i) & 255 : 0;
        n[i / 4] |= b << 24 - 8 * (i % 4);
      }
      answer = x.feed(n[0], n[1], n[2], n[3], n[4]);
    }
    return answer;
  }

  static TreatyRouter of(String book) {
    TreatyRouter x = new TreatyRouter();
    feed(x, book);
    if (x.text(0) < 1) throw new IllegalStateException("no book: " + x.fault(0) + " in " + book);
    return x;
  }

  static int fault(int sort, String text) {
    TreatyRouter x = new TreatyRouter();
    feed(x, text);
    return x.fault(sort);
  }

  static String spelled(TreatyRouter x, int sort, int from, int to, int amount) {
    StringBuilder out = new StringBuilder();
    int n = x.spell(sort, from, to, amount, -1);
    for (int i = 0; i < n; i++) out.append((char) x.spell(sort, from, to, amount, i));
    return out.toString();
  }

  /** firm(), with -77 where it throws what it should. */
  static int firm(TreatyRouter x, int firm, int what) {
    try {
      return x.firm(firm, what);
    } catch (java.util.NoSuchElementException e) {
      return -77;
    }
  }
}
