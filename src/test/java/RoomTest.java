import java.lang.management.ManagementFactory;

/** What calls make is next to nothing: rows are made with the object and used again. */
public final class RoomTest {
  private static final String BOOK = "land a 100 50 200;land b 0 0 0;land c 150 100 300;firm x a 5;firm y b 3;firm z c 9;firm w c 1;"
      + "owns y x 30 10;owns z y 100 40;owns z x 10 20;lends z x 45;owns w z 5 5;treaty a c 0 50 120 30 25 5 2 0;treaty a b 30 0 40 0 10 2 4 0";

  public static void main(String[] args) {
    Check c = new Check();
    com.sun.management.ThreadMXBean bean = (com.sun.management.ThreadMXBean) ManagementFactory.getThreadMXBean();
    long id = Thread.currentThread().getId();
    round(new TreatyRouter());
    long before = bean.getThreadAllocatedBytes(id);
    TreatyRouter[] made = new TreatyRouter[100];
    for (int i = 0; i < made.length; i++) made[i] = new TreatyRouter();
    long each = (bean.getThreadAllocatedBytes(id) - before) / made.length;
    System.out.println("bytes of an object: " + each);
    c.due("bytes of an object", each < 60000, true);
    TreatyRouter x = made[0];
    Check.feed(x, BOOK);
    c.due("text(0)", x.text(0), 4);
    before = bean.getThreadAllocatedBytes(id);
    long sum = 0;
    for (int i = 0; i < 500; i++) sum += round(x);
    long all = bean.getThreadAllocatedBytes(id) - before;
    System.out.println("bytes of 500 rounds of calls: " + all + " (" + sum + ")");
    c.due("bytes of 500 rounds", all < 20000, true);
    c.finish("RoomTest");
  }

  private static long round(TreatyRouter x) {
    long sum = x.years(40, x.count(3)) + x.gross(0, 0, 2, 5000) + x.hire(0, 0, 2, 1000, 1) + x.soon(0, 0, 2, 1000) + x.key(0, 0, 2, 1000);
    sum += x.spell(0, 0, 2, 1000, -1) + x.least(0, 0, 3, 1000, 0) + x.worth(0, 0, 3, 1000, 1) + x.twice(0, 0, 2, 1000) + x.lapsed(0, 0, 2, 1000, 0, 1);
    sum += x.asOf(0, 0, 3, 1000, 60, 1) + x.image() + x.pay(0, 0, 3, 5) + x.undo() + x.back() + x.loops(0, 0, 3) + x.run(0, 0) + x.all(5);
    x.feed(0x6c616e64, 0x20612031, 0, 0, 0);
    sum += x.fault(0) + x.text(0) + (x.end(0) ? 1 : 0);
    return sum;
  }
}
