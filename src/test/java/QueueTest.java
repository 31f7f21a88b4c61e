/** Promises 25 to 29: the queue of two stacks. */
public final class QueueTest {
  public static void main(String[] args) {
    enterAndLeave();
    frontMoves();
    full();
    empty();
    wrongInputs();
    eachIsMovedOnce();
    Check.end("QueueTest");
  }

  /** Asks for all that ofQueue() tells: here, in IN, in OUT, entered, left, moved. */
  private static void numbersDue(Twostacks x, String want) {
    StringBuilder got = new StringBuilder();
    for (int what = 0; what < 6; what++) {
      got.append(what > 0 ? " " : "").append(x.ofQueue(what));
    }
    Check.due("ofQueue", got.toString(), want);
  }

  private static void enterAndLeave() {
    Twostacks x = new Twostacks();
    Check.due("enter", x.enter(0), 1);
    Check.due("enter", x.enter(99), 2);
    Check.due("enter", x.enter(7), 3);
    numbersDue(x, "3 3 0 3 0 0");
    Check.due("queue", x.queue(), "0 99 7");
    Check.asksOnly("queue", x, x::queue);
    Check.due("leave", x.leave(), 0);
    numbersDue(x, "2 0 2 3 1 3");
    Check.due("enter", x.enter(5), 3);
    Check.due("queue of both stacks", x.queue(), "99 7 5");
    numbersDue(x, "3 1 2 4 1 3");
    Check.due("leave", x.leave(), 99);
    Check.due("leave", x.leave(), 7);
    numbersDue(x, "1 1 0 4 3 3");
    Check.due("leave", x.leave(), 5);
    numbersDue(x, "0 0 0 4 4 4");
  }

  private static void frontMoves() {
    Twostacks x = new Twostacks();
    x.enter(1);
    x.enter(2);
    Check.due("front", x.front(), 1);
    numbersDue(x, "2 0 2 2 0 2");
    x.enter(3);
    Check.due("front", x.front(), 1);
    numbersDue(x, "3 1 2 3 0 2");
    Check.asksOnly("front with OUT", x, x::front);
    x.leave();
    x.leave();
    Check.due("queue", x.queue(), "3");
    numbersDue(x, "1 1 0 3 2 2");
    Check.due("front", x.front(), 3);
    numbersDue(x, "1 0 1 3 2 3");
  }

  private static void full() {
    Twostacks x = new Twostacks();
    for (int i = 0; i < 40; i++) {
      Check.due("enter", x.enter(i), i + 1);
    }
    Check.due("queue", x.queue(), Check.numbers(0, 39));
    Check.refused("enter in a full one", x, () -> x.enter(5));
    Check.due("front", x.front(), 0);
    Check.refused("enter in a full one", x, () -> x.enter(5));
    Check.due("leave", x.leave(), 0);
    Check.due("enter", x.enter(40), 40);
    numbersDue(x, "40 1 39 41 1 40");
    Check.refused("enter in a full one", x, () -> x.enter(5));
    Check.due("queue", x.queue(), Check.numbers(1, 40));
    Check.fails("enter no thing in a full one", x, Check.ARGUMENT, () -> x.enter(100));
  }

  private static void empty() {
    Twostacks x = new Twostacks();
    Check.due("front", x.front(), -1);
    Check.due("queue", x.queue(), "");
    Check.due("no refusal", x.house(2), 0);
    Check.refused("leave of none", x, x::leave);
    numbersDue(x, "0 0 0 0 0 0");
    x.enter(3);
    x.leave();
    Check.refused("leave of none", x, x::leave);
    Check.due("front", x.front(), -1);
    numbersDue(x, "0 0 0 1 1 1");
  }

  private static void wrongInputs() {
    Twostacks x = new Twostacks();
    x.enter(1);
    for (int thing : new int[] {-1, 100, Integer.MIN_VALUE, Integer.MAX_VALUE}) {
      Check.fails("enter no thing", x, Check.ARGUMENT, () -> x.enter(thing));
    }
    for (int what : new int[] {-1, 6, Integer.MIN_VALUE, Integer.MAX_VALUE}) {
      Check.fails("ofQueue", x, Check.ARGUMENT, () -> x.ofQueue(what));
    }
    for (int what = 0; what < 6; what++) {
      int which = what;
      Check.asksOnly("ofQueue", x, () -> x.ofQueue(which));
    }
  }

  /** Whatever is looked at between: what leaves is what entered, and each was moved just once. */
  private static void eachIsMovedOnce() {
    Twostacks x = new Twostacks();
    int entered = 0;
    int left = 0;
    for (int round = 0; round < 30; round++) {
      for (int i = 0; i < 1 + round % 5; i++) {
        x.enter(entered % 100);
        entered++;
      }
      if (round % 3 == 0) {
        Check.due("front", x.front(), left % 100);
      }
      for (int i = 0; i < 1 + round % 4; i++) {
        Check.due("leave", x.leave(), left % 100);
        left++;
      }
      Check.due("moved", x.ofQueue(5), x.ofQueue(4) + x.ofQueue(2));
      Check.due("entered", x.ofQueue(3), entered);
      Check.due("left", x.ofQueue(4), left);
      Check.due("isSound", x.isSound(), true);
    }
  }
}
