/** Promises 14 to 24: what is asked of the deques; none of these changes anything. */
public final class DequeAskTest {
  private static final int[] NO_DEQUE = {-1, 4, Integer.MIN_VALUE, Integer.MAX_VALUE};
  private static final int[] NO_THING = {-1, 100, Integer.MIN_VALUE, Integer.MAX_VALUE};

  public static void main(String[] args) {
    sizes();
    things();
    at();
    text();
    areSame();
    shift();
    leastTurn();
    period();
    turnsOfOneSize();
    wrongInputs();
    askingChangesNothing();
    Check.end("DequeAskTest");
  }

  private static void sizes() {
    Twostacks x = new Twostacks();
    for (int deque = 0; deque < 4; deque++) {
      Check.due("size", x.size(deque), 0);
      Check.due("isEmpty", x.isEmpty(deque), true);
      x.put(deque, 0, 0, 0);
      Check.due("size", x.size(deque), 1);
      Check.due("isEmpty", x.isEmpty(deque), false);
    }
    Check.due("size", Check.with(3, Check.numbers(1, 24)).size(3), 24);
  }

  private static void things() {
    Twostacks x = Check.with(0, "4 9 4 0 99 4");
    Check.due("has", x.has(0, 4), true);
    Check.due("has 0", x.has(0, 0), true);
    Check.due("has 99", x.has(0, 99), true);
    Check.due("has not", x.has(0, 5), false);
    Check.due("has not, empty", x.has(1, 0), false);
    Check.due("often", x.often(0, 4), 3);
    Check.due("often once", x.often(0, 99), 1);
    Check.due("often never", x.often(0, 5), 0);
    Check.due("often, empty", x.often(1, 0), 0);
    Check.due("place first", x.place(0, 4, false), 0);
    Check.due("place last", x.place(0, 4, true), 5);
    Check.due("place of one", x.place(0, 9, true), 1);
    Check.due("place of one", x.place(0, 9, false), 1);
    Check.due("place of none", x.place(0, 5, true), -1);
    Check.due("place of none", x.place(0, 5, false), -1);
    Check.due("place, empty", x.place(1, 0, false), -1);
    x.clear(0);
    Check.due("has not, cleared", x.has(0, 4), false);
    Check.due("often, cleared", x.often(0, 4), 0);
    Check.due("place, cleared", x.place(0, 4, true), -1);
  }

  private static void at() {
    Twostacks x = Check.with(2, "7 8 9");
    Check.due("at", x.at(2, 0), 7);
    Check.due("at", x.at(2, 1), 8);
    Check.due("at", x.at(2, 2), 9);
    for (int place : new int[] {3, 24, -1, Integer.MIN_VALUE, Integer.MAX_VALUE}) {
      Check.due("at none", x.at(2, place), -1);
    }
    Check.due("at, empty", x.at(1, 0), -1);
    x.take(2, 1, 0);
    Check.due("at, taken", x.at(2, 2), -1);
  }

  private static void text() {
    Twostacks x = Check.with(0, "7 10 99 0");
    Check.due("text", x.text(0, false), "7 10 99 0");
    Check.due("text back", x.text(0, true), "0 99 10 7");
    Check.due("text, empty", x.text(1, false), "");
    Check.due("text back, empty", x.text(1, true), "");
    Check.due("text of one", Check.with(0, "5").text(0, true), "5");
  }

  private static void areSame() {
    Twostacks x = Check.with(0, "1 2 3");
    Check.fill(x, 1, "3 2 1");
    Check.fill(x, 2, "1 2");
    Check.due("unlike", x.areSame(0, 1, false), false);
    Check.due("back", x.areSame(0, 1, true), true);
    Check.due("itself", x.areSame(0, 0, false), true);
    Check.due("itself back", x.areSame(0, 0, true), false);
    Check.due("shorter", x.areSame(0, 2, false), false);
    Check.due("longer", x.areSame(2, 0, false), false);
    Check.due("shorter back", x.areSame(1, 2, true), false);
    Check.due("empty", x.areSame(3, 3, true), true);
    Check.due("one empty", x.areSame(3, 0, false), false);
    Check.fill(x, 3, "1 2 1");
    Check.due("the same both ways", x.areSame(3, 3, true), true);
  }

  private static void shift() {
    shifted("1 2 3 4", "3 4 1 2", 2);
    shifted("1 2 3 4", "1 2 3 4", 0);
    shifted("1 2 3 4", "4 1 2 3", 3);
    shifted("1 2 3 4", "2 3 4 1", 1);
    shifted("1 2 1 2", "2 1 2 1", 1);
    shifted("1 2 1 2", "1 2 1 2", 0);
    shifted("1 2 3", "3 2 1", -1);
    shifted("1 2 3", "1 2", -1);
    shifted("1 2", "1 2 3", -1);
    shifted("", "1", -1);
    shifted("1", "", -1);
    shifted("", "", 0);
    shifted(Check.numbers(0, 23), "23 " + Check.numbers(0, 22), 23);
  }

  private static void shifted(String one, String other, int want) {
    Twostacks x = Check.with(1, one);
    Check.fill(x, 2, other);
    Check.due("shift of " + one + " to " + other, x.shift(1, 2), want);
    Check.due("shift of itself", x.shift(1, 1), 0);
    if (want >= 0) {
      x.turn(1, want);
      Check.due("turned by it", x.text(1, false), other);
    }
  }

  private static void leastTurn() {
    least("", "");
    least("5", "5");
    least("2 1", "1 2");
    least("3 1 2", "1 2 3");
    least("1 2 1 1", "1 1 1 2");
    least("10 9", "9 10");
    least("2 10 2 9", "2 9 2 10");
    least("1 0 1 0 0", "0 0 1 0 1");
    least("99 0 0", "0 0 99");
    least(Check.numbers(1, 23) + " 0", Check.numbers(0, 23));
  }

  private static void least(String things, String want) {
    Twostacks x = Check.with(3, things);
    for (int by = 0; by <= x.size(3); by++) {
      Check.due("leastTurn of " + things + " by " + by, x.leastTurn(3), want);
      x.turn(3, 1);
    }
  }

  private static void period() {
    Check.due("period", Check.with(0, "").period(0), 0);
    Check.due("period", Check.with(0, "5").period(0), 1);
    Check.due("period", Check.with(0, "5 5 5").period(0), 1);
    Check.due("period", Check.with(0, "1 2 1 2").period(0), 2);
    Check.due("period", Check.with(0, "1 2 1 2 1").period(0), 5);
    Check.due("period", Check.with(0, "1 1 2 1 1 2").period(0), 3);
    Check.due("period", Check.with(0, "1 2 3 4").period(0), 4);
    Check.due("period", Check.with(0, Check.numbers(0, 11) + " " + Check.numbers(0, 11)).period(0), 12);
    Check.due("period", Check.with(0, Check.numbers(0, 23)).period(0), 24);
  }

  /** Of each size up to 6 all rows of 0 and 1: turns of each other just if their least turns are the same. */
  private static void turnsOfOneSize() {
    for (int size = 1; size <= 6; size++) {
      for (int first = 0; first < 1 << size; first++) {
        Twostacks x = Check.with(0, bits(first, size));
        java.util.Set<String> turns = new java.util.LinkedHashSet<>();
        for (int by = 0; by < size; by++) {
          turns.add(x.text(0, false));
          x.turn(0, 1);
        }
        Check.due("period of " + bits(first, size), x.period(0), turns.size());
        Check.due("leastTurn of " + bits(first, size), x.leastTurn(0), java.util.Collections.min(turns));
        for (int second = 0; second < 1 << size; second++) {
          Twostacks y = Check.with(0, bits(first, size));
          Check.fill(y, 1, bits(second, size));
          int want = new java.util.ArrayList<>(turns).indexOf(bits(second, size));
          Check.due("shift of " + bits(first, size) + " to " + bits(second, size), y.shift(0, 1), want);
        }
      }
    }
  }

  private static String bits(int number, int size) {
    StringBuilder text = new StringBuilder();
    for (int i = 0; i < size; i++) {
      text.append(i > 0 ? " " : "").append(number >> i & 1);
    }
    return text.toString();
  }

  private static void wrongInputs() {
    Twostacks x = Check.with(0, "1 2 3");
    for (int deque : NO_DEQUE) {
      Check.fails("size", x, Check.INDEX, () -> x.size(deque));
      Check.fails("isEmpty", x, Check.INDEX, () -> x.isEmpty(deque));
      Check.fails("has", x, Check.INDEX, () -> x.has(deque, 100));
      Check.fails("often", x, Check.INDEX, () -> x.often(deque, 100));
      Check.fails("place", x, Check.INDEX, () -> x.place(deque, 100, true));
      Check.fails("at", x, Check.INDEX, () -> x.at(deque, 0));
      Check.fails("text", x, Check.INDEX, () -> x.text(deque, false));
      Check.fails("text back", x, Check.INDEX, () -> x.text(deque, true));
      Check.fails("areSame one", x, Check.INDEX, () -> x.areSame(deque, 0, false));
      Check.fails("areSame other", x, Check.INDEX, () -> x.areSame(0, deque, true));
      Check.fails("shift one", x, Check.INDEX, () -> x.shift(deque, 0));
      Check.fails("shift other", x, Check.INDEX, () -> x.shift(0, deque));
      Check.fails("leastTurn", x, Check.INDEX, () -> x.leastTurn(deque));
      Check.fails("period", x, Check.INDEX, () -> x.period(deque));
    }
    for (int thing : NO_THING) {
      Check.fails("has", x, Check.ARGUMENT, () -> x.has(0, thing));
      Check.fails("often", x, Check.ARGUMENT, () -> x.often(0, thing));
      Check.fails("place", x, Check.ARGUMENT, () -> x.place(0, thing, true));
      Check.fails("place", x, Check.ARGUMENT, () -> x.place(0, thing, false));
    }
  }

  private static void askingChangesNothing() {
    Twostacks x = Check.with(0, "3 1 2 3 1 2");
    Check.fill(x, 1, "1 2 3");
    Check.asksOnly("size", x, () -> x.size(0));
    Check.asksOnly("isEmpty", x, () -> x.isEmpty(0));
    Check.asksOnly("has", x, () -> x.has(0, 1));
    Check.asksOnly("often", x, () -> x.often(0, 1));
    Check.asksOnly("place", x, () -> x.place(0, 1, true));
    Check.asksOnly("at", x, () -> x.at(0, 99));
    Check.asksOnly("text", x, () -> x.text(0, false));
    Check.asksOnly("text back", x, () -> x.text(0, true));
    Check.asksOnly("areSame", x, () -> x.areSame(0, 1, true));
    Check.asksOnly("shift", x, () -> x.shift(0, 1));
    Check.asksOnly("leastTurn", x, () -> x.leastTurn(0));
    Check.asksOnly("period", x, () -> x.period(0));
  }
}
