import java.lang.reflect.InvocationTargetException;
import java.lang.reflect.Method;
import java.util.HashMap;
import java.util.Map;
import java.util.NoSuchElementException;

/** An object that is called by texts such as "best(0, 0, 2, 1000, 0)", no oftener than the document promises. */
final class Used {
  /** Stands for the answer of a call that throws NoSuchElementException. */
  static final long THROWS = -77;
  static final int MOST_CALLS = 512;

  private record Call(Method method, Object[] arguments) { }

  private static final Map<String, Method> FACE = face();
  private static final Map<String, Call> READ = new HashMap<>();

  private final TreatyRouter x = new TreatyRouter();
  private int calls = 0;

  private static Map<String, Method> face() {
    Map<String, Method> all = new HashMap<>();
    for (Method m : TreatyRouter.class.getDeclaredMethods()) all.put(m.getName(), m);
    return all;
  }

  private static Call read(String text) {
    int open = text.indexOf('(');
    Method m = FACE.get(text.substring(0, open));
    if (m == null || !text.endsWith(")")) throw new IllegalArgumentException("no such call: " + text);
    String inside = text.substring(open + 1, text.length() - 1);
    String[] told = inside.isEmpty() ? new String[0] : inside.split(", ");
    Class<?>[] types = m.getParameterTypes();
    if (told.length != types.length) throw new IllegalArgumentException("not so many: " + text);
    Object[] arguments = new Object[told.length];
    for (int i = 0; i < told.length; i++) {
      if (types[i] == long.class) arguments[i] = Long.valueOf(told[i]);
      else arguments[i] = Integer.valueOf(told[i]);
    }
    return new Call(m, arguments);
  }

  /** The answer, a boolean as 1 or 0; what must not be thrown ends the test. */
  long call(String text) {
    calls++;
    if (calls > MOST_CALLS) throw new IllegalStateException("more calls than are promised: " + text);
    Call call = READ.computeIfAbsent(text, Used::read);
    try {
      Object answer = call.method.invoke(x, call.arguments);
      if (answer instanceof Boolean b) return b ? 1 : 0;
      return ((Number) answer).longValue();
    } catch (InvocationTargetException e) {
      if (e.getCause().getClass() == NoSuchElementException.class) return THROWS;
      throw new IllegalStateException(text, e.getCause());
    } catch (IllegalAccessException e) {
      throw new IllegalStateException(text, e);
    }
  }

  /** Puts a text on the TAPE behind what is there. */
  void tape(String text) {
    for (int at = 0; at < text.length(); at += 20) {
      if (call(feed(text.substring(at, Math.min(at + 20, text.length())))) == TreatyRouter.NONE) throw new IllegalStateException("too long: " + text);
    }
  }

  /** The call that feeds up to twenty bytes. */
  static String feed(String text) {
    int[] n = new int[5];
    for (int i = 0; i < text.length(); i++) n[i / 4] |= (text.charAt(i) & 255) << 24 - 8 * (i % 4);
    return "feed(" + n[0] + ", " + n[1] + ", " + n[2] + ", " + n[3] + ", " + n[4] + ")";
  }
}
