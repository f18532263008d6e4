import java.util.ArrayList;
import java.util.List;

/**
 * All that can be asked of an object, STATUS apart. Each part is asked of an object of its own that came to be in the
 * same way, so that none is called oftener than is promised, and none of the others sees what undo(), back(), end() do.
 */
final class Look {
  private static final List<String> PLAIN = plain();
  private static final List<String> NAMES = names();
  private static final List<String> TREATIES = treaties();
  private static final List<String> LOG = cells("log", 60, 3);
  private static final List<String> STEPS = steps();
  private static final List<String> ASKED = asked();

  final long[] status = new long[4];
  final List<String> rest = new ArrayList<>();

  Look(Given g) {
    Used u = g.make();
    for (int what = 0; what < status.length; what++) status[what] = u.call("status(" + what + ")");
    ask(u, PLAIN);
    ask(g.make(), NAMES);
    ask(g.make(), TREATIES);
    ask(g.make(), LOG);
    ask(g.make(), STEPS);
    ask(g.make(), ASKED);
    goBack(g.make());
    undoAll(g.make());
    cutTape(g.make());
  }

  private void ask(Used u, List<String> calls) {
    for (String call : calls) rest.add(call + " = " + u.call(call));
  }

  private void goBack(Used u) {
    rest.add("behind back() = " + u.call("back()"));
    ask(u, PLAIN);
    for (int i = 0; i < 20; i++) rest.add("log(" + i + ", 1) = " + u.call("log(" + i + ", 1)"));
  }

  private void undoAll(Used u) {
    for (int i = 0; i < 41; i++) {
      long left = u.call("undo()");
      rest.add("undo() = " + left);
      if (left == TreatyRouter.NONE) return;
      for (String call : new String[] {"all(0)", "all(1)", "all(3)", "count(3)", "count(6)"}) rest.add("undone: " + call + " = " + u.call(call));
    }
  }

  private void cutTape(Used u) {
    long length = u.call("count(2)");
    int stride = (int) (length / 70 + 1);
    for (int n = (int) length; n >= 0; n -= stride) {
      u.call("end(" + n + ")");
      rest.add("TAPE of " + n + " = " + u.call("fault(0)") + " " + u.call("fault(1)"));
    }
  }

  /** Where it differs from another one, or an empty text. */
  String unlike(Look other) {
    for (int i = 0; i < rest.size() && i < other.rest.size(); i++) {
      if (!rest.get(i).equals(other.rest.get(i))) return rest.get(i) + ", but then " + other.rest.get(i);
    }
    return rest.size() == other.rest.size() ? "" : "so much: " + rest.size() + ", but then " + other.rest.size();
  }

  private static List<String> plain() {
    List<String> calls = new ArrayList<>();
    for (int what = 0; what < 7; what++) calls.add("count(" + what + ")");
    for (int what = 0; what < 9; what++) calls.add("all(" + what + ")");
    calls.addAll(cells("land", 6, 4));
    calls.addAll(cells("firm", 8, 5));
    calls.addAll(cells("link", 16, 5));
    return calls;
  }

  private static List<String> cells(String name, int rows, int columns) {
    List<String> calls = new ArrayList<>();
    for (int i = 0; i < rows; i++) for (int what = 0; what < columns; what++) calls.add(name + "(" + i + ", " + what + ")");
    return calls;
  }

  private static List<String> names() {
    List<String> calls = new ArrayList<>();
    for (int n = 0; n < 14; n++) for (int i = 0; i < 8; i++) calls.add("name(" + (n < 6 ? "0, " + n : "1, " + (n - 6)) + ", " + i + ")");
    return calls;
  }

  private static List<String> treaties() {
    List<String> calls = new ArrayList<>();
    for (int a = 0; a < 6; a++) for (int b = 0; b < a; b++) for (int what = 0; what < 8; what++) {
      calls.add("treaty(" + a + ", " + b + ", 50, " + what + ")");
      calls.add("treaty(" + a + ", " + b + ", 199, " + what + ")");
    }
    return calls;
  }

  private static List<String> steps() {
    List<String> calls = new ArrayList<>();
    for (int s = 0; s < 4; s++) for (int i = 0; i < 12; i++) for (int what = 0; what < 5; what++) calls.add("step(" + s + ", " + i + ", " + what + ")");
    return calls;
  }

  private static List<String> asked() {
    List<String> calls = new ArrayList<>();
    for (int sort = 0; sort < 2; sort++) for (int from = 0; from < 8; from++) for (int to = 0; to < 8; to++) {
      calls.add("best(" + sort + ", " + from + ", " + to + ", 1000, 0)");
      calls.add("loops(" + sort + ", " + from + ", " + to + ")");
    }
    return calls;
  }
}
