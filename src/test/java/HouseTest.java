import java.lang.reflect.Field;
import java.util.List;
import java.util.function.Consumer;

/** Promises 1 and 42 to 45: a new object, and what is told of all of it. */
public final class HouseTest {
  public static void main(String[] args) throws ReflectiveOperationException {
    newObject();
    objectsAreApart();
    knock();
    lastCall();
    house();
    isSound();
    isNotSound();
    digest();
    wrongInputs();
    Check.end("HouseTest");
  }

  private static void newObject() {
    Twostacks x = new Twostacks();
    Check.due("everything", Check.everything(x), "/;/;/;/;;0 0;0 0;0 0;0 0;0 0;0 0;;;;;0 4 0");
    Check.due("house(2)", x.house(2), 0);
    Check.due("front", x.front(), -1);
    Check.due("end", x.end(true), -1);
    Check.due("wheel", x.wheel(1), -1);
    Check.due("isSound", x.isSound(), true);
    Check.due("digest", x.digest(), digestByAsking(x));
  }

  private static void objectsAreApart() {
    Twostacks x = new Twostacks();
    Twostacks y = new Twostacks();
    x.put(0, 0, 0, 1);
    x.enter(2);
    x.slide(3);
    x.gather(4);
    x.knock();
    Check.due("the other object", Check.everything(y), Check.everything(new Twostacks()));
  }

  private static void knock() {
    Twostacks x = new Twostacks();
    for (int i = 1; i <= 20; i++) {
      Check.due("knock", x.knock(), i);
      Check.due("house(3)", x.house(3), i);
    }
  }

  /** An object is used for 512 calls: the last one answers yet. */
  private static void lastCall() {
    Twostacks knocked = new Twostacks();
    for (int i = 1; i <= 512; i++) {
      Check.due("knock", knocked.knock(), i);
    }
    Twostacks refused = new Twostacks();
    for (int i = 1; i <= 511; i++) {
      Check.due("take of none", refused.take(0, 0, 0), -9);
    }
    Check.due("refusals", refused.house(2), 511);
    Twostacks queued = new Twostacks();
    for (int i = 1; i <= 255; i++) {
      Check.due("enter", queued.enter(i % 100), 1);
      Check.due("leave", queued.leave(), i % 100);
    }
    Check.due("entered", queued.ofQueue(3), 255);
    Check.due("moved", queued.ofQueue(5), 255);
    Twostacks slid = new Twostacks();
    for (int i = 1; i <= 510; i++) {
      Check.due("slide", slid.slide(i % 2), i == 1 ? 1 : 0);
    }
    Check.due("came", slid.ofWindow(3), 510);
    Check.due("put off", slid.ofWindow(4), 255);
  }

  private static void house() {
    Twostacks x = Check.with(1, "1 2 3");
    Check.fill(x, 3, "4 5");
    Check.due("things", x.house(0), 5);
    Check.due("empties", x.house(1), 2);
    Check.due("refusals", x.house(2), 0);
    x.take(0, 0, 0);
    x.leave();
    x.count(1);
    Check.due("refusals", x.house(2), 3);
    Check.due("knocks", x.house(3), 0);
    x.enter(1);
    x.slide(1);
    x.gather(3);
    Check.due("things of deques alone", x.house(0), 5);
    x.clear(1);
    x.clear(3);
    Check.due("things", x.house(0), 0);
    Check.due("empties", x.house(1), 4);
    for (int deque = 0; deque < 4; deque++) {
      Check.fill(x, deque, Check.numbers(1, 24));
    }
    Check.due("things", x.house(0), 96);
    Check.due("empties", x.house(1), 0);
    x.pour(0, 1, true);
    x.braid(2, 3, 0);
    Check.due("refusals", x.house(2), 5);
    for (int what = 0; what < 4; what++) {
      int which = what;
      Check.asksOnly("house", x, () -> x.house(which));
    }
  }

  /** Each state is made on an object of its own: asking for everything takes many of its 512 calls. */
  private static void isSound() {
    List<Consumer<Twostacks>> steps = List.of(
        x -> Check.fill(x, 0, "1 2 1 2"),
        x -> Check.fill(x, 1, "2 1 2 1"),
        x -> Check.fill(x, 2, "1 1 2 2"),
        x -> Check.fill(x, 3, "5 5 5"),
        x -> Check.fill(x, 0, Check.numbers(1, 24)),
        x -> Check.fill(x, 1, Check.numbers(1, 24)),
        x -> Check.fill(x, 2, Check.numbers(1, 23)),
        x -> x.turn(1, 7),
        x -> x.enter(1),
        x -> x.enter(2),
        x -> x.leave(),
        x -> x.enter(3),
        x -> x.slide(9),
        x -> x.slide(3),
        x -> x.slide(7),
        x -> x.gather(24),
        x -> x.count(5),
        x -> x.wheel(3));
    for (int many = 0; many <= steps.size(); many++) {
      Twostacks x = new Twostacks();
      for (Consumer<Twostacks> step : steps.subList(0, many)) {
        step.accept(x);
      }
      soundAndAsking(x);
    }
  }

  private static void soundAndAsking(Twostacks x) {
    Check.due("isSound", x.isSound(), true);
    Check.asksOnly("isSound", x, x::isSound);
    String before = Check.everything(x);
    long sum = x.digest();
    Check.due("digest", sum, digestByAsking(x));
    Check.due("digest once more", x.digest(), sum);
    Check.due("all after isSound and digest", Check.everything(x), before);
  }

  /** No run of calls makes it false. So the counts of the queue, which it compares, are made wrong from outside. */
  private static void isNotSound() throws ReflectiveOperationException {
    int counts = 0;
    Field queue = Twostacks.class.getDeclaredField("stackQueue");
    queue.setAccessible(true);
    for (Field count : queue.getType().getDeclaredFields()) {
      if (count.getType() != int.class) {
        continue;
      }
      counts++;
      count.setAccessible(true);
      for (int by = -1; by <= 1; by++) {
        Twostacks x = new Twostacks();
        x.enter(1);
        x.enter(2);
        x.leave();
        x.slide(3);
        count.setInt(queue.get(x), count.getInt(queue.get(x)) + by);
        Check.due("isSound with " + count.getName() + " and " + by, x.isSound(), by == 0);
        Check.due("digest with " + count.getName() + " and " + by, x.digest(), digestByAsking(x));
      }
    }
    Check.due("counts", counts, 3);
  }

  private static void digest() {
    Twostacks x = Check.with(0, "10 2 99 0");
    Check.fill(x, 1, "99 0 10 2");
    Check.fill(x, 3, "7 7 7");
    x.enter(1);
    x.enter(2);
    x.front();
    x.enter(3);
    x.slide(5);
    x.slide(2);
    x.slide(9);
    x.gather(6);
    x.count(3);
    x.knock();
    x.take(2, 0, 0);
    Check.due("digest", x.digest(), digestByAsking(x));
    long before = x.digest();
    x.knock();
    Check.due("digest tells knocks", x.digest() != before, true);
  }

  private static long joinedRow(long sum, String row) {
    long d = sum;
    if (!row.isEmpty()) {
      for (String number : row.split(" ")) {
        d = d * 31 + Integer.parseInt(number);
      }
    }
    return d;
  }

  static long digestByAsking(Twostacks x) {
    long d = 7833;
    for (int what = 0; what < 4; what++) {
      d = d * 31 + x.house(what);
    }
    for (int deque = 0; deque < 4; deque++) {
      d = joinedRow(d * 31 + x.size(deque), x.text(deque, false));
      d = d * 31 + x.period(deque);
      d = d * 31 + x.leastTurn(deque).length();
    }
    for (int one = 0; one < 4; one++) {
      for (int other = 0; other < 4; other++) {
        d = d * 31 + x.shift(one, other);
      }
    }
    for (int what = 0; what < 6; what++) {
      d = d * 31 + x.ofQueue(what);
    }
    d = joinedRow(d, x.queue());
    for (int what = 0; what < 6; what++) {
      d = d * 31 + x.ofWindow(what);
    }
    d = joinedRow(d, x.window());
    d = joinedRow(d, x.candidates(false));
    d = joinedRow(d, x.candidates(true));
    String ring = x.ring();
    d = joinedRow(d * 31 + (ring.isEmpty() ? 0 : ring.split(" ").length), ring);
    return d * 31 + (x.isSound() ? 1 : 0);
  }

  private static void wrongInputs() {
    Twostacks x = new Twostacks();
    for (int what : new int[] {-1, 4, Integer.MIN_VALUE, Integer.MAX_VALUE}) {
      Check.fails("house", x, Check.ARGUMENT, () -> x.house(what));
    }
    Check.due("exceptions are no refusals", x.house(2), 0);
  }
}
