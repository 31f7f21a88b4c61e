/** Promises 36 to 41: the ring by which is counted out. */
public final class RingTest {
  public static void main(String[] args) {
    gather();
    count();
    wheel();
    order();
    survivor();
    survivorsGoOnByTheRule();
    wrongInputs();
    Check.end("RingTest");
  }

  private static void gather() {
    Twostacks x = new Twostacks();
    Check.due("ring at first", x.ring(), "");
    Check.due("gather", x.gather(5), 0);
    Check.due("ring", x.ring(), "0 1 2 3 4");
    x.count(2);
    Check.due("gather", x.gather(24), 4);
    Check.due("ring", x.ring(), Check.numbers(0, 23));
    Check.due("gather none", x.gather(0), 24);
    Check.due("ring", x.ring(), "");
    Check.due("gather", x.gather(1), 0);
    Check.due("ring", x.ring(), "0");
  }

  private static void count() {
    Twostacks x = new Twostacks();
    Check.refused("count of none", x, () -> x.count(1));
    x.gather(6);
    Check.due("count", x.count(4), 3);
    Check.due("ring", x.ring(), "4 5 0 1 2");
    Check.due("count by 1", x.count(1), 4);
    Check.due("ring", x.ring(), "5 0 1 2");
    Check.due("count by its size", x.count(4), 2);
    Check.due("ring", x.ring(), "5 0 1");
    Check.due("count by 99", x.count(99), 1);
    Check.due("ring", x.ring(), "5 0");
    Check.due("count by 98", x.count(98), 0);
    Check.due("the last one", x.count(50), 5);
    Check.due("ring", x.ring(), "");
    Check.refused("count of none", x, () -> x.count(99));
  }

  private static void wheel() {
    Twostacks x = new Twostacks();
    Check.due("wheel of none", x.wheel(3), -1);
    Check.due("wheel of none", x.wheel(Integer.MIN_VALUE), -1);
    Check.due("no refusal", x.house(2), 0);
    x.gather(5);
    Check.due("wheel", x.wheel(2), 2);
    Check.due("ring", x.ring(), "2 3 4 0 1");
    Check.due("wheel by 0", x.wheel(0), 2);
    Check.due("wheel back", x.wheel(-3), 4);
    Check.due("wheel by its size", x.wheel(5), 4);
    Check.due("wheel by the greatest", x.wheel(Integer.MAX_VALUE), 1);
    Check.due("wheel by the least", x.wheel(Integer.MIN_VALUE), 3);
    Check.due("ring", x.ring(), "3 4 0 1 2");
    Check.asksOnly("ring", x, x::ring);
  }

  private static void order() {
    Twostacks x = new Twostacks();
    x.gather(7);
    x.wheel(3);
    Check.due("order", x.order(7, 3), "2 5 1 6 4 0 3");
    Check.due("order by 1", x.order(24, 1), Check.numbers(0, 23));
    Check.due("order of 1", x.order(1, 99), "0");
    Check.due("order of none", x.order(0, 1), "");
    Check.due("order of none", x.order(0, 99), "");
    Check.due("the ring is left", x.ring(), "3 4 5 6 0 1 2");
    Check.asksOnly("order", x, () -> x.order(24, 99));
    for (int n = 0; n <= 24; n++) {
      for (int k = 1; k <= 99; k += 7) {
        Twostacks y = new Twostacks();
        y.gather(n);
        StringBuilder want = new StringBuilder();
        for (int i = 0; i < n; i++) {
          want.append(i > 0 ? " " : "").append(y.count(k));
        }
        Check.due("order of " + n + " by " + k, x.order(n, k), want.toString());
      }
    }
  }

  private static void survivor() {
    Twostacks x = new Twostacks();
    x.gather(7);
    Check.due("survivor", x.survivor(7, 3), 3);
    Check.due("survivor of 1", x.survivor(1, 1), 0);
    Check.due("survivor of 1", x.survivor(1, 99), 0);
    Check.due("survivor by 1", x.survivor(24, 1), 23);
    Check.due("survivor by 2", x.survivor(24, 2), 16);
    Check.due("the ring is left", x.ring(), "0 1 2 3 4 5 6");
    Check.asksOnly("survivor", x, () -> x.survivor(24, 99));
  }

  private static void survivorsGoOnByTheRule() {
    for (int k = 1; k <= 99; k++) {
      Twostacks x = new Twostacks();
      for (int n = 1; n <= 24; n++) {
        int want = n == 1 ? 0 : (x.survivor(n - 1, k) + k) % n;
        Check.due("survivor of " + n + " by " + k, x.survivor(n, k), want);
        String order = x.order(n, k);
        Check.due("last of order", order.substring(order.lastIndexOf(' ') + 1), "" + want);
      }
    }
  }

  private static void wrongInputs() {
    Twostacks x = new Twostacks();
    int[] noStep = {0, -1, 100, Integer.MIN_VALUE, Integer.MAX_VALUE};
    for (int k : noStep) {
      Check.fails("count of none", x, Check.ARGUMENT, () -> x.count(k));
    }
    x.gather(3);
    for (int n : new int[] {-1, 25, Integer.MIN_VALUE, Integer.MAX_VALUE}) {
      Check.fails("gather", x, Check.ARGUMENT, () -> x.gather(n));
      Check.fails("order n", x, Check.ARGUMENT, () -> x.order(n, 1));
      Check.fails("survivor n", x, Check.ARGUMENT, () -> x.survivor(n, 1));
    }
    Check.fails("survivor of none", x, Check.ARGUMENT, () -> x.survivor(0, 1));
    for (int k : noStep) {
      Check.fails("count", x, Check.ARGUMENT, () -> x.count(k));
      Check.fails("order k", x, Check.ARGUMENT, () -> x.order(5, k));
      Check.fails("order k of none", x, Check.ARGUMENT, () -> x.order(0, k));
      Check.fails("survivor k", x, Check.ARGUMENT, () -> x.survivor(5, k));
    }
  }
}
