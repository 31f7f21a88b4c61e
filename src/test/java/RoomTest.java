import java.lang.management.ManagementFactory;
import java.util.LinkedHashMap;
import java.util.Map;
import java.util.function.Consumer;

/**
 * How much room an object and its 512 calls take. Rule 12 of LANGUAGE.md and the room of a run (some
 * 600,000 objects and arrays, 7.3 million fields and elements) are kept by far, if what one call makes
 * is a text at most: an object is 16 bytes at least, and a field or an element one byte.
 */
public final class RoomTest {
  private static final int CALLS = 512;
  private static final long BYTES_OF_A_RUN = 1_000_000;
  /** What the machine may take for itself: less than one object for each call. */
  private static final long BYTES_OF_NOTHING = 4096;
  private static final long BYTES_OF_AN_OBJECT = 10_000;

  private static final com.sun.management.ThreadMXBean THREADS =
      (com.sun.management.ThreadMXBean) ManagementFactory.getThreadMXBean();

  public static void main(String[] args) {
    made();
    asks().forEach((name, call) -> runOf(name, call, BYTES_OF_A_RUN));
    changes().forEach((name, call) -> runOf(name, call, BYTES_OF_NOTHING));
    Check.end("RoomTest");
  }

  private static void made() {
    new Twostacks();
    long before = bytes();
    new Twostacks();
    long taken = bytes() - before;
    Check.due("room of a new object, " + taken, taken < BYTES_OF_AN_OBJECT, true);
  }

  /** What answers a text makes that, and what it is written in. */
  private static Map<String, Consumer<Twostacks>> asks() {
    Map<String, Consumer<Twostacks>> calls = new LinkedHashMap<>();
    calls.put("text", x -> x.text(0, true));
    calls.put("leastTurn", x -> x.leastTurn(0));
    calls.put("queue", x -> x.queue());
    calls.put("window", x -> x.window());
    calls.put("candidates", x -> x.candidates(false));
    calls.put("ring", x -> x.ring());
    calls.put("order", x -> x.order(24, 99));
    return calls;
  }

  /** What answers a number makes nothing. */
  private static Map<String, Consumer<Twostacks>> changes() {
    Map<String, Consumer<Twostacks>> calls = new LinkedHashMap<>();
    calls.put("put", x -> x.put(1, 0, 0, 99));
    calls.put("take", x -> x.take(0, 0, 0));
    calls.put("look", x -> x.look(0, 1, 0));
    calls.put("drop", x -> x.drop(0, 99, true));
    calls.put("sift", x -> x.sift(0, 0, 98));
    calls.put("thin", x -> x.thin(0, 24, true));
    calls.put("clear", x -> x.clear(1));
    calls.put("copy", x -> x.copy(0, 1));
    calls.put("pour", x -> x.pour(0, 2, true));
    calls.put("turn", x -> x.turn(0, Integer.MIN_VALUE));
    calls.put("braid", x -> x.braid(0, 2, 3));
    calls.put("unbraid", x -> x.unbraid(0, 2, 3));
    calls.put("size", x -> x.size(0));
    calls.put("isEmpty", x -> x.isEmpty(0));
    calls.put("has", x -> x.has(0, 98));
    calls.put("often", x -> x.often(0, 99));
    calls.put("place", x -> x.place(0, 99, true));
    calls.put("at", x -> x.at(0, 23));
    calls.put("areSame", x -> x.areSame(0, 1, true));
    calls.put("shift", x -> x.shift(0, 1));
    calls.put("period", x -> x.period(0));
    calls.put("enter and leave", x -> {
      x.enter(99);
      x.leave();
    });
    calls.put("front", x -> x.front());
    calls.put("ofQueue", x -> x.ofQueue(0));
    calls.put("slide", x -> x.slide(99));
    calls.put("width", x -> x.width(12));
    calls.put("end", x -> x.end(true));
    calls.put("ofWindow", x -> x.ofWindow(1));
    calls.put("gather and count", x -> {
      x.gather(24);
      x.count(99);
    });
    calls.put("wheel", x -> x.wheel(Integer.MAX_VALUE));
    calls.put("survivor", x -> x.survivor(24, 99));
    calls.put("knock", x -> x.knock());
    calls.put("house", x -> x.house(0));
    calls.put("isSound", x -> x.isSound());
    calls.put("digest", x -> x.digest());
    return calls;
  }

  /** An object that is full everywhere, of numbers with two digits. */
  private static Twostacks full() {
    Twostacks x = new Twostacks();
    Check.fill(x, 0, "99 ".repeat(23) + "98");
    Check.fill(x, 1, "99 ".repeat(23) + "98");
    x.width(12);
    for (int i = 0; i < 40; i++) {
      x.enter(99);
      x.slide(99);
    }
    x.gather(24);
    return x;
  }

  /** Once before it is measured, so that what the machine makes on its first call does not count. */
  private static void runOf(String name, Consumer<Twostacks> call, long most) {
    long taken = 0;
    for (int time = 0; time < 2; time++) {
      Twostacks x = full();
      long before = bytes();
      for (int i = 0; i < CALLS; i++) {
        call.accept(x);
      }
      taken = bytes() - before;
    }
    Check.due("room of " + CALLS + " times " + name + ", " + taken + ", is " + most + " or less", taken <= most, true);
  }

  private static long bytes() {
    return THREADS.getThreadAllocatedBytes(Thread.currentThread().getId());
  }
}
