import java.util.ArrayList;
import java.util.List;

/**
 * How an object came to be what it is: calls, one behind the other. "tape T", "book T", "script T" feed a text, the
 * latter two take it, too. A call that must be refused has a ! ahead of it, so that no other one is by mistake.
 */
final class Given {
  static final Given NEW = new Given(List.of());

  private final List<String> calls;
  private Look look = null;

  private Given(List<String> calls) {
    this.calls = calls;
  }

  static Given book(String text) {
    return NEW.and("book " + text);
  }

  Given and(String... more) {
    List<String> all = new ArrayList<>(calls);
    all.addAll(List.of(more));
    return new Given(all);
  }

  Given times(int n, String... more) {
    List<String> all = new ArrayList<>(calls);
    for (int i = 0; i < n; i++) all.addAll(List.of(more));
    return new Given(all);
  }

  Used make() {
    Used u = new Used();
    for (String call : calls) carryOut(u, call);
    return u;
  }

  private void carryOut(Used u, String call) {
    if (call.startsWith("tape ")) {
      u.tape(call.substring(5));
      return;
    }
    boolean refused = call.startsWith("!");
    long answer;
    if (call.startsWith("book ") || call.startsWith("script ")) {
      u.tape(call.substring(call.indexOf(' ') + 1));
      answer = u.call(call.startsWith("book ") ? "text(0)" : "text(1)");
    } else {
      answer = u.call(refused ? call.substring(1) : call);
    }
    boolean none = answer == TreatyRouter.NONE || answer == TreatyRouter.HIDDEN || answer == Used.THROWS || call.startsWith("end(") && answer == 0;
    if (none && !refused) throw new IllegalStateException("refused: " + call + " of " + this);
  }

  /** All that can be asked of it; looked at once. */
  Look look() {
    if (look == null) look = new Look(this);
    return look;
  }

  @Override
  public String toString() {
    StringBuilder b = new StringBuilder();
    int from = Math.max(0, calls.size() - 6);
    if (from > 0) b.append(".. ");
    for (String call : calls.subList(from, calls.size())) b.append(call.length() > 70 ? call.substring(0, 70) + ".." : call).append(" | ");
    return b.toString();
  }
}
