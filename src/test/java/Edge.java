import java.io.IOException;
import java.nio.file.Files;
import java.nio.file.Path;
import java.util.Arrays;
import java.util.LinkedHashMap;
import java.util.Map;

/**
 * Tests of sentences: says() names the sentence that those behind it are about, and looks it up in the document; at the
 * end no word of the Terms and the promises may be left that no test is about.
 */
final class Edge {
  static final int NONE = TreatyRouter.NONE;
  static final int HIDDEN = TreatyRouter.HIDDEN;
  static final int MIN = Integer.MIN_VALUE;
  static final int MAX = Integer.MAX_VALUE;
  /** No STATUS is more behind it. */
  static final int NO_STATUS = -1;

  private static final String[] STIRRING = {"fault(0)", "fault(1)", "best(0, 0, 1, 777, 0)", "best(1, 1, 0, 777777, 3)", "spell(1, 0, 1, 5, -1)", "spell(0, 0, 2, 1000, 3)",
      "asOf(0, 0, 1, 99, 10, 0)", "hire(1, 0, 1, 77, 1)", "soon(0, 0, 1, 5)", "worth(1, 0, 1, 999, 0)", "twice(1, 0, 2, 1000)", "run(0, 1)", "gross(1, 0, 1, 5)", "key(1, 0, 2, 9)",
      "least(1, 0, 2, 50, 0)", "direct(0, 0, 1, 7)", "hop(1, 0, 1, 0, 0)", "loops(1, 0, 2)", "lapsed(1, 0, 1, 9, 0, 1)"};

  private final Check check = new Check();
  private final Map<String, String> sections = new LinkedHashMap<>();
  private final Map<String, boolean[]> named = new LinkedHashMap<>();
  private String sentence = "";
  private int asked = 1;

  Edge(Path document) throws IOException {
    for (String part : Files.readString(document).split("(?m)^## ")) {
      int line = part.indexOf('\n');
      if (line < 0) continue;
      String title = part.substring(0, line).split(":")[0];
      String text = part.substring(line).replaceAll("```(text)?", " ").replaceAll("==== \\d\\.", " ").replaceAll("\\s+", " ").trim();
      if (title.equals("What it is")) text = text.substring(text.indexOf("An object is used"));
      if (title.startsWith("Promise")) text = text.replaceFirst("^`[^`]*`: ", "");
      if (!title.equals("What it is") && !title.equals("Terms") && !title.startsWith("Promise")) continue;
      sections.put(title, text);
      named.put(title, new boolean[text.length()]);
    }
  }

  /** What the tests that follow are about, word by word as the document has it. */
  void says(String section, String quote) {
    isTested();
    String text = sections.getOrDefault(section, "");
    int at = text.indexOf(quote);
    check.due(section + " says '" + quote + "'", at >= 0, true);
    for (; at >= 0; at = text.indexOf(quote, at + 1)) Arrays.fill(named.get(section), at, at + quote.length(), true);
    sentence = section + ": '" + quote + "'";
    asked = 0;
  }

  private void isTested() {
    check.due("tests of " + sentence, asked > 0, true);
  }

  void finish(String what) {
    isTested();
    check.due("sections of the document", sections.size(), 1 + 1 + 43);
    for (String section : sections.keySet()) {
      StringBuilder left = new StringBuilder();
      String text = sections.get(section);
      for (int i = 0; i < text.length(); i++) left.append(named.get(section)[i] ? ' ' : text.charAt(i));
      String words = left.toString().replaceAll("[^A-Za-z0-9]+", " ").trim();
      check.due(section + ": what no test is about", words, "");
    }
    check.finish(what);
  }

  void due(String call, long got, long want) {
    asked++;
    check.due(sentence + ": " + call, got, want);
  }

  void due(String call, String got, String want) {
    asked++;
    check.due(sentence + ": " + call, got, want);
  }

  /** Questions change nothing: what is due is due behind these, too. */
  private static Used stirred(Given g) {
    Used u = g.make();
    for (String call : STIRRING) u.call(call);
    return u;
  }

  /** One call on an object of its own. */
  void is(Given g, String call, long want) {
    due(g + call, g.make().call(call), want);
    due(g + "stirred, " + call, stirred(g).call(call), want);
  }

  /** Calls and their answers in turn, on one object. */
  void run(Given g, Object... callsAndAnswers) {
    run(g.make(), g + "run: ", callsAndAnswers);
    run(stirred(g), g + "stirred, run: ", callsAndAnswers);
  }

  private void run(Used u, String given, Object... callsAndAnswers) {
    for (int i = 0; i + 1 < callsAndAnswers.length; i += 2) {
      String call = (String) callsAndAnswers[i];
      due(given + call, u.call(call), ((Number) callsAndAnswers[i + 1]).longValue());
    }
  }

  /** A refused call: its answer, one more of a STATUS (or of none), and nothing else has changed. */
  void refused(Given g, String call, long want, int status) {
    is(g, call, want);
    Look before = g.look();
    Look behind = g.and("!" + call).look();
    for (int what = 0; what < 4; what++) {
      due(g + call + ", then status(" + what + ")", behind.status[what], before.status[what] + (what == status ? 1 : 0));
    }
    due(g + call + ", what has changed", before.unlike(behind), "");
  }

  /** A question that is refused. */
  void refused(Given g, String call, long want) {
    refused(g, call, want, NO_STATUS);
  }

  /** For # in a call: the last value that is taken on each side and what it answers then, and the first that are not. */
  void bounds(Given g, String call, int[] lowHigh, long[] answers, long refusal, int status) {
    is(g, call.replace("#", "" + lowHigh[0]), answers[0]);
    is(g, call.replace("#", "" + lowHigh[1]), answers[1]);
    for (int value : new int[] {lowHigh[0] - 1, lowHigh[1] + 1, MIN, MAX}) refused(g, call.replace("#", "" + value), refusal, status);
  }

  void bounds(Given g, String call, int low, long atLow, int high, long atHigh, long refusal) {
    bounds(g, call, new int[] {low, high}, new long[] {atLow, atHigh}, refusal, NO_STATUS);
  }

  /** A TEXT with a ^ where its FAULT is, or none: fault() tells it, and text() takes it or does not. */
  void fault(int sort, String marked) {
    int at = marked.indexOf('^');
    faultAt(sort, at < 0 ? marked : marked.substring(0, at) + marked.substring(at + 1), at);
  }

  void faultAt(int sort, String text, int where) {
    Given g = Given.NEW.and("tape " + text);
    is(g, "fault(" + sort + ")", where);
    if (where == NONE) due("text(" + sort + ") takes '" + text + "'", g.make().call("text(" + sort + ")") == NONE ? 0 : 1, 1);
    else refused(g, "text(" + sort + ")", NONE);
  }

  /** A NUMBER in a TEXT, between what stands ahead and behind: the last ones that are taken, the first that are not. */
  void number(int sort, String ahead, String behind, int low, int high) {
    if (low > 0) fault(sort, ahead + "^" + (low - 1) + behind);
    fault(sort, ahead + low + behind);
    fault(sort, ahead + high + behind);
    fault(sort, ahead + "^" + (high + 1) + behind);
  }

  /** The TEXT of a BEST WAY. */
  void spelled(Given g, String call, String want) {
    Used u = g.make();
    long n = u.call("spell(" + call + ", -1)");
    StringBuilder b = new StringBuilder();
    for (int i = 0; i < n; i++) b.append((char) u.call("spell(" + call + ", " + i + ")"));
    due(g + "TEXT of " + call, b.toString(), want);
  }
}
