import java.lang.reflect.Method;
import java.lang.reflect.Modifier;
import java.util.Random;

/** Every method with the least, the greatest and other far numbers, in several states: nothing is thrown but by firm(). */
public final class ExtremesTest {
  private static final long[] NUMBERS = {Integer.MIN_VALUE, -1000000, -2, -1, 0, 1, 2, 5, 7, 8, 20, 99, 400, 1000, 1000000, 1000001, Integer.MAX_VALUE};
  private static final int TRIES = 1200;
  private static final Random DRAW = new Random(2026);

  public static void main(String[] args) {
    Check c = new Check();
    Given full = Fixed.eightInARing().times(4, "script pass 20;pay 1 0 5 9999").and("image()", "tape " + ";".repeat(400));
    for (Given g : new Given[] {Given.NEW, Fixed.busy(), full}) {
      for (Method m : TreatyRouter.class.getDeclaredMethods()) if (Modifier.isPublic(m.getModifiers())) c.due(m.getName() + " in " + g, strange(g, m), "");
    }
    c.finish("ExtremesTest");
  }

  /** What was thrown, or an empty text. */
  private static String strange(Given g, Method m) {
    Used u = g.make();
    for (int i = 0; i < TRIES; i++) {
      if (i % 300 == 299) u = g.make();
      StringBuilder call = new StringBuilder(m.getName()).append('(');
      for (int p = 0; p < m.getParameterCount(); p++) call.append(p > 0 ? ", " : "").append(NUMBERS[DRAW.nextInt(NUMBERS.length)]);
      call.append(')');
      try {
        if (u.call(call.toString()) == Used.THROWS && !m.getName().equals("firm")) return call + " threw";
      } catch (IllegalStateException e) {
        return call + " threw " + e.getCause();
      }
    }
    return "";
  }
}
