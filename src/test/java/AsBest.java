/** "as best()": what a question about a BEST WAY refuses, and the last values that it takes. */
final class AsBest {
  private AsBest() { }

  /** A call with places for SORT, FROM, TO, AMOUNT: refused, and nothing has changed. */
  static void refusals(Edge e, String form) {
    Given ring = Fixed.eightInARing();
    for (int wrong : new int[] {-1, 2, Edge.MIN, Edge.MAX}) e.refused(ring, String.format(form, wrong, 0, 1, 1000), Edge.NONE);
    for (int wrong : new int[] {-1, 8, Edge.MIN, Edge.MAX}) {
      e.refused(ring, String.format(form, 0, wrong, 1, 1000), Edge.NONE);
      e.refused(ring, String.format(form, 0, 0, wrong, 1000), Edge.NONE);
      e.refused(ring, String.format(form, 0, wrong, wrong, 1000), Edge.NONE);
    }
    for (int wrong : new int[] {0, -1, 1000001, Edge.MIN, Edge.MAX}) e.refused(ring, String.format(form, 0, 0, 1, wrong), Edge.NONE);
    for (int one : new int[] {0, 7}) e.refused(ring, String.format(form, 0, one, one, 1000), Edge.NONE);
    for (int sort = 0; sort < 2; sort++) e.refused(ring, String.format(form, sort, 0, 6, 1000), Edge.NONE);
    e.refused(Fixed.busy(), String.format(form, 0, 2, 0, 1000), Edge.NONE);
    e.refused(Given.NEW, String.format(form, 0, 0, 1, 1000), Edge.NONE);
  }

  /**
   * Of both sorts, in the ring: what is answered of 1 and of 1,000,000 from the first FIRM to the second one, and of
   * 1000 from the last one to the first, to the last one, and by five HOPS.
   */
  static void taken(Edge e, String form, long... answers) {
    int[][] asked = {{0, 1, 1}, {0, 1, 1000000}, {7, 0, 1000}, {6, 7, 1000}, {0, 5, 1000}};
    for (int sort = 0; sort < 2; sort++) {
      for (int i = 0; i < asked.length; i++) e.is(Fixed.eightInARing(), String.format(form, sort, asked[i][0], asked[i][1], asked[i][2]), answers[i]);
    }
  }
}
