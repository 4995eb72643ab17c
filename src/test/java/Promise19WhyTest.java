/** Promise 19: why. */
public final class Promise19WhyTest {
  public static void main(String[] args) {
    CountedBuses x = Due.worksWithEnds(600, 620);
    x.set(1, 1);
    x.set(3, 30);
    Due.due("it would be promised", x.why(0, 0, 6), 0);
    Due.due("too late", x.why(0, 0, 7), 3);
    x.book(0, 0, 2);
    Due.due("full on the first stretch", x.why(0, 0, 9), 2);
    Due.due("full as far as the stop", x.why(0, 0, 1), 2);
    Due.due("the other line has a seat", x.why(1, 0, 1), 0);
    Due.due("the other bus has a seat", x.why(0, 1, 1), 0);
    x.merge(0, 0, 1);
    Due.due("one bus, full", x.why(0, 1, 1), 2);
    x.takeBack(0);
    Due.due("20 minutes to wait and 10 to ride", x.why(0, 0, 2), 0);
    Due.due("20 minutes to wait and 15 to ride", x.why(0, 0, 3), 3);
    Due.due("the later end does not wait", x.why(0, 1, 6), 0);
    Due.due("but it rides", x.why(0, 1, 7), 3);

    String before = Due.allOf(x);
    int[] ends = {2, -1, 10, -5, Integer.MIN_VALUE, Integer.MAX_VALUE};
    for (int end : ends) {
      Due.due("there is no end " + end, x.why(0, end, 1), 1);
    }
    int[][] unknown = {{-1, 0, 1}, {2, 0, 1}, {0, 0, 0}, {0, 0, 10}, {2, 9, 1}, {0, 9, 10},
        {Integer.MAX_VALUE, 0, 1}, {0, 0, Integer.MIN_VALUE}};
    for (int[] a : unknown) {
      Due.due("why(" + a[0] + ", " + a[1] + ", " + a[2] + ")", x.why(a[0], a[1], a[2]), -1);
    }
    Due.holds("asking changes nothing", before.equals(Due.allOf(x)));
    Due.finish();
  }
}
