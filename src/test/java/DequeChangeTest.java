/** Promises 2 to 13: what changes the deques. */
public final class DequeChangeTest {
  private static final int[] NO_DEQUE = {-1, 4, Integer.MIN_VALUE, Integer.MAX_VALUE};
  private static final int[] NO_THING = {-1, 100, Integer.MIN_VALUE, Integer.MAX_VALUE};

  public static void main(String[] args) {
    put();
    take();
    look();
    endsAndWaysAreTested();
    drop();
    sift();
    thin();
    clear();
    copy();
    pour();
    turn();
    turnsAddUp();
    braid();
    unbraid();
    braidedAndUnbraided();
    Check.end("DequeChangeTest");
  }

  private static void put() {
    Twostacks x = new Twostacks();
    for (int way = 0; way < 4; way++) {
      Check.due("put at 0", x.put(0, 0, way, way), 2 * way + 1);
      Check.due("put at 1", x.put(0, 1, way, 10 + way), 2 * way + 2);
    }
    Check.due("text", x.text(0, false), "3 2 1 0 10 11 12 13");
    Check.due("least thing", x.put(3, 0, 0, 0), 1);
    Check.due("greatest thing", x.put(3, 0, 0, 99), 2);
    Check.due("text", x.text(3, false), "99 0");
    for (int way = 0; way < 4; way++) {
      int by = way;
      Twostacks full = Check.with(2, Check.numbers(1, 23));
      Check.due("the 24th", full.put(2, 0, way, 0), 24);
      Check.refused("put in a full one", full, () -> full.put(2, 0, by, 5));
      Check.refused("put in a full one", full, () -> full.put(2, 1, by, 5));
    }
    Twostacks y = Check.with(2, Check.numbers(1, 24));
    for (int deque : NO_DEQUE) {
      Check.fails("put no deque", y, Check.INDEX, () -> y.put(deque, 2, 4, 100));
    }
    for (int thing : NO_THING) {
      Check.fails("put no thing", y, Check.ARGUMENT, () -> y.put(1, 0, 0, thing));
      Check.fails("put no thing in a full one", y, Check.ARGUMENT, () -> y.put(2, 0, 0, thing));
    }
  }

  private static void take() {
    for (int way = 0; way < 4; way++) {
      int by = way;
      Twostacks x = Check.with(1, "5 6 7 8");
      Check.due("take first", x.take(1, 0, way), 5);
      Check.due("take last", x.take(1, 1, way), 8);
      Check.due("text", x.text(1, false), "6 7");
      Check.due("take last", x.take(1, 1, way), 7);
      Check.due("take first", x.take(1, 0, way), 6);
      Check.refused("take of none", x, () -> x.take(1, 0, by));
      Check.refused("take of none", x, () -> x.take(1, 1, by));
    }
  }

  private static void look() {
    Twostacks x = Check.with(1, "5 6 7");
    for (int way = 0; way < 4; way++) {
      int by = way;
      Check.due("look first", x.look(1, 0, way), 5);
      Check.due("look last", x.look(1, 1, way), 7);
      Check.due("look at none", x.look(0, 0, way), -1);
      Check.due("look at none", x.look(0, 1, way), -1);
      Check.asksOnly("look", x, () -> x.look(1, 0, by));
    }
  }

  private static void endsAndWaysAreTested() {
    Twostacks x = Check.with(1, "5 6 7");
    for (int deque : NO_DEQUE) {
      Check.fails("take no deque", x, Check.INDEX, () -> x.take(deque, 2, 4));
      Check.fails("look no deque", x, Check.INDEX, () -> x.look(deque, 2, 4));
    }
    for (int end : new int[] {-1, 2, Integer.MIN_VALUE, Integer.MAX_VALUE}) {
      Check.fails("put end", x, Check.ARGUMENT, () -> x.put(1, end, 0, 1));
      Check.fails("take end", x, Check.ARGUMENT, () -> x.take(1, end, 0));
      Check.fails("take end of none", x, Check.ARGUMENT, () -> x.take(0, end, 0));
      Check.fails("look end", x, Check.ARGUMENT, () -> x.look(1, end, 0));
    }
    for (int way : new int[] {-1, 4, Integer.MIN_VALUE, Integer.MAX_VALUE}) {
      Check.fails("put way", x, Check.ARGUMENT, () -> x.put(1, 0, way, 1));
      Check.fails("take way", x, Check.ARGUMENT, () -> x.take(1, 0, way));
      Check.fails("take way of none", x, Check.ARGUMENT, () -> x.take(0, 0, way));
      Check.fails("look way", x, Check.ARGUMENT, () -> x.look(1, 1, way));
    }
  }

  private static void drop() {
    Twostacks x = Check.with(0, "4 9 4 8 4");
    Check.due("drop last", x.drop(0, 4, true), 1);
    Check.due("text", x.text(0, false), "4 9 4 8");
    Check.due("drop first", x.drop(0, 4, false), 1);
    Check.due("text", x.text(0, false), "9 4 8");
    Check.due("drop none", x.drop(0, 5, false), 0);
    Check.due("drop none", x.drop(0, 5, true), 0);
    Check.due("text", x.text(0, false), "9 4 8");
    Check.due("drop of an empty one", x.drop(1, 5, true), 0);
    Check.due("no refusal", x.house(2), 0);
    for (int deque : NO_DEQUE) {
      Check.fails("drop no deque", x, Check.INDEX, () -> x.drop(deque, 100, true));
    }
    for (int thing : NO_THING) {
      Check.fails("drop no thing", x, Check.ARGUMENT, () -> x.drop(0, thing, false));
    }
  }

  private static void sift() {
    Twostacks x = Check.with(0, "0 5 6 7 8 99 5 8");
    Check.due("sift", x.sift(0, 6, 8), 4);
    Check.due("text", x.text(0, false), "0 5 99 5");
    Check.due("sift one", x.sift(0, 5, 5), 2);
    Check.due("text", x.text(0, false), "0 99");
    Check.due("sift none between", x.sift(0, 99, 0), 0);
    Check.due("sift none", x.sift(0, 1, 98), 0);
    Check.due("sift all", x.sift(0, 0, 99), 2);
    Check.due("sift of an empty one", x.sift(0, 0, 99), 0);
    Twostacks y = Check.with(2, Check.numbers(0, 23));
    Check.due("sift of a full one", y.sift(2, 1, 22), 22);
    Check.due("text", y.text(2, false), "0 23");
    for (int deque : NO_DEQUE) {
      Check.fails("sift no deque", y, Check.INDEX, () -> y.sift(deque, -1, 100));
    }
    for (int thing : NO_THING) {
      Check.fails("sift no low", y, Check.ARGUMENT, () -> y.sift(2, thing, 5));
      Check.fails("sift no high", y, Check.ARGUMENT, () -> y.sift(2, 5, thing));
    }
  }

  private static void thin() {
    thinned(3, false, "1 2 3 4 5 6 7", 2, "1 2 4 5 7");
    thinned(3, true, "1 2 3 4 5 6 7", 2, "1 3 4 6 7");
    thinned(2, true, "1 2 3 4", 2, "2 4");
    thinned(2, false, "1 2 3 4", 2, "1 3");
    thinned(1, false, "1 2 3", 3, "");
    thinned(1, true, "1 2 3", 3, "");
    thinned(4, false, "1 2 3", 0, "1 2 3");
    thinned(5, true, "", 0, "");
    thinned(24, false, Check.numbers(0, 23), 1, Check.numbers(0, 22));
    thinned(24, true, Check.numbers(0, 23), 1, Check.numbers(1, 23));
    Twostacks x = Check.with(0, "1 2 3");
    for (int deque : NO_DEQUE) {
      Check.fails("thin no deque", x, Check.INDEX, () -> x.thin(deque, 0, true));
    }
    for (int nth : new int[] {0, -1, 25, Integer.MIN_VALUE, Integer.MAX_VALUE}) {
      Check.fails("thin nth", x, Check.ARGUMENT, () -> x.thin(0, nth, false));
      Check.fails("thin nth", x, Check.ARGUMENT, () -> x.thin(0, nth, true));
    }
  }

  private static void thinned(int nth, boolean isBack, String things, int went, String left) {
    Twostacks x = Check.with(3, things);
    Check.due("thin by " + nth + " of " + things, x.thin(3, nth, isBack), went);
    Check.due("text after thin by " + nth + " of " + things, x.text(3, false), left);
  }

  private static void clear() {
    Twostacks x = Check.with(2, "1 2 3");
    Check.fill(x, 3, "4");
    Check.due("clear", x.clear(2), 3);
    Check.due("clear", x.clear(2), 0);
    Check.due("text", x.text(2, false), "");
    Check.due("the other one", x.text(3, false), "4");
    for (int deque : NO_DEQUE) {
      Check.fails("clear no deque", x, Check.INDEX, () -> x.clear(deque));
    }
  }

  private static void copy() {
    Twostacks x = Check.with(0, "1 2 3");
    Check.fill(x, 1, "9 9 9 9");
    Check.due("copy to another one", x.copy(0, 1), 1);
    Check.due("into", x.text(1, false), "1 2 3");
    Check.due("from", x.text(0, false), "1 2 3");
    Check.due("copy of a like one", x.copy(0, 1), 0);
    Check.due("copy to itself", x.copy(0, 0), 0);
    Check.due("itself", x.text(0, false), "1 2 3");
    x.put(1, 1, 0, 4);
    Check.due("from is left", x.text(0, false), "1 2 3");
    Check.due("copy of a part", x.copy(0, 1), 1);
    x.turn(1, 1);
    Check.due("copy of a turned one", x.copy(0, 1), 1);
    Check.due("copy of an empty one", x.copy(3, 0), 1);
    Check.due("emptied", x.size(0), 0);
    Check.due("copy of an empty one to one", x.copy(3, 2), 0);
    for (int deque : NO_DEQUE) {
      Check.fails("copy no from", x, Check.INDEX, () -> x.copy(deque, 1));
      Check.fails("copy no into", x, Check.INDEX, () -> x.copy(1, deque));
    }
  }

  private static void pour() {
    Twostacks x = Check.with(0, "1 2 3");
    Check.fill(x, 1, "8 9");
    Check.due("pour", x.pour(0, 1, false), 3);
    Check.due("into", x.text(1, false), "8 9 1 2 3");
    Check.due("from", x.text(0, false), "");
    Check.fill(x, 0, "4 5");
    Check.due("pour turned", x.pour(0, 1, true), 2);
    Check.due("into", x.text(1, false), "5 4 8 9 1 2 3");
    Check.due("pour of an empty one", x.pour(0, 1, true), 0);
    Check.due("to and fro", x.pour(1, 0, true) + x.pour(0, 1, true), 14);
    Check.due("is what it was", x.text(1, false), "5 4 8 9 1 2 3");
    Check.fill(x, 2, Check.numbers(1, 17));
    Check.due("just 24", x.pour(1, 2, false), 7);
    Check.due("size", x.size(2), 24);
    Check.due("of none into a full one", x.pour(1, 2, false), 0);
    Check.fill(x, 3, "1");
    Check.refused("25", x, () -> x.pour(3, 2, false));
    Check.refused("25 turned", x, () -> x.pour(2, 3, true));
    for (int deque : NO_DEQUE) {
      Check.fails("pour no from", x, Check.INDEX, () -> x.pour(deque, 1, false));
      Check.fails("pour no into", x, Check.INDEX, () -> x.pour(1, deque, true));
      Check.fails("pour no same", x, Check.INDEX, () -> x.pour(deque, deque, true));
    }
    for (int same = 0; same < 4; same++) {
      int deque = same;
      Check.fails("pour the same", x, Check.ARGUMENT, () -> x.pour(deque, deque, false));
      Check.fails("pour the same", x, Check.ARGUMENT, () -> x.pour(deque, deque, true));
    }
  }

  private static void turn() {
    turned("1 2 3 4 5", 0, "1 2 3 4 5");
    turned("1 2 3 4 5", 1, "2 3 4 5 1");
    turned("1 2 3 4 5", -1, "5 1 2 3 4");
    turned("1 2 3 4 5", 7, "3 4 5 1 2");
    turned("1 2 3 4 5", -7, "4 5 1 2 3");
    turned("1 2 3 4 5", Integer.MAX_VALUE, "3 4 5 1 2");
    turned("1 2 3 4 5", Integer.MIN_VALUE, "3 4 5 1 2");
    turned("7", 3, "7");
    Twostacks x = new Twostacks();
    Check.due("turn of none", x.turn(0, 3), -1);
    Check.due("turn of none", x.turn(0, Integer.MIN_VALUE), -1);
    Check.due("no refusal", x.house(2), 0);
    for (int deque : NO_DEQUE) {
      Check.fails("turn no deque", x, Check.INDEX, () -> x.turn(deque, 1));
    }
  }

  private static void turned(String things, int by, String want) {
    Twostacks x = Check.with(1, things);
    Check.due("turn by " + by, x.turn(1, by) + "", want.split(" ")[0]);
    Check.due("text after turn by " + by, x.text(1, false), want);
  }

  private static void turnsAddUp() {
    for (int size = 1; size <= 24; size++) {
      Twostacks x = Check.with(0, Check.numbers(1, size));
      x.copy(0, 1);
      x.turn(0, 5);
      x.turn(0, -17);
      x.turn(1, -12);
      Check.due("turned twice " + size, x.text(0, false), x.text(1, false));
      x.turn(0, size);
      Check.due("turned by its size " + size, x.text(0, false), x.text(1, false));
    }
  }

  private static void braid() {
    Twostacks x = Check.with(0, "1 2 3 4");
    Check.fill(x, 1, "8 9");
    Check.due("braid", x.braid(0, 1, 2), 6);
    Check.due("braided", x.text(2, false), "1 8 2 9 3 4");
    Check.due("braid the other way", x.braid(1, 0, 2), 6);
    Check.due("braided", x.text(2, false), "8 1 9 2 3 4");
    Check.due("a is left", x.text(0, false), "1 2 3 4");
    Check.due("b is left", x.text(1, false), "8 9");
    Check.due("into a", x.braid(0, 1, 0), 6);
    Check.due("a", x.text(0, false), "1 8 2 9 3 4");
    Check.due("into b", x.braid(0, 1, 1), 8);
    Check.due("b", x.text(1, false), "1 8 8 9 2 9 3 4");
    Check.due("with itself", x.braid(1, 1, 1), 16);
    Check.due("b", x.text(1, false), "1 1 8 8 8 8 9 9 2 2 9 9 3 3 4 4");
    Check.due("with none", x.braid(3, 0, 3), 6);
    Check.due("of none", x.text(3, false), "1 8 2 9 3 4");
    x.clear(2);
    Check.due("of none both", x.braid(2, 2, 0), 0);
    Check.due("none", x.text(0, false), "");
    Check.fill(x, 0, Check.numbers(1, 12));
    Check.due("just 24", x.braid(0, 0, 2), 24);
    x.put(1, 1, 0, 5);
    Check.fill(x, 3, "1 2 3 4 5 6 7 8");
    Check.refused("25", x, () -> x.braid(1, 3, 0));
    Check.refused("48", x, () -> x.braid(2, 2, 0));
    for (int deque : NO_DEQUE) {
      Check.fails("braid no one", x, Check.INDEX, () -> x.braid(deque, 2, 2));
      Check.fails("braid no other", x, Check.INDEX, () -> x.braid(2, deque, 2));
      Check.fails("braid no into, 48", x, Check.INDEX, () -> x.braid(2, 2, deque));
    }
  }

  private static void unbraid() {
    Twostacks x = Check.with(0, "1 2 3 4 5");
    Check.fill(x, 1, "7 7 7 7 7 7");
    Check.due("unbraid", x.unbraid(0, 1, 2), 3);
    Check.due("one", x.text(1, false), "1 3 5");
    Check.due("other", x.text(2, false), "2 4");
    Check.due("from", x.text(0, false), "1 2 3 4 5");
    Check.due("one is from", x.unbraid(0, 0, 3), 3);
    Check.due("one", x.text(0, false), "1 3 5");
    Check.due("other", x.text(3, false), "2 4");
    Check.due("other is from", x.unbraid(0, 1, 0), 2);
    Check.due("one", x.text(1, false), "1 5");
    Check.due("other", x.text(0, false), "3");
    Check.due("of one", x.unbraid(0, 2, 1), 1);
    Check.due("one", x.text(2, false), "3");
    Check.due("other", x.text(1, false), "");
    Check.due("of none", x.unbraid(1, 2, 3), 0);
    Check.due("one", x.text(2, false), "");
    for (int deque : NO_DEQUE) {
      Check.fails("unbraid no from", x, Check.INDEX, () -> x.unbraid(deque, 1, 1));
      Check.fails("unbraid no one", x, Check.INDEX, () -> x.unbraid(0, deque, 1));
      Check.fails("unbraid no other", x, Check.INDEX, () -> x.unbraid(0, 1, deque));
      Check.fails("unbraid no both", x, Check.INDEX, () -> x.unbraid(0, deque, deque));
    }
    Check.fails("unbraid the same", x, Check.ARGUMENT, () -> x.unbraid(0, 1, 1));
    Check.fails("unbraid the same as from", x, Check.ARGUMENT, () -> x.unbraid(0, 0, 0));
  }

  private static void braidedAndUnbraided() {
    for (int size = 0; size <= 12; size++) {
      for (int longer = 0; longer <= 1 && 2 * size + longer <= 24; longer++) {
        Twostacks x = Check.with(0, Check.numbers(1, size + longer));
        Check.fill(x, 1, Check.numbers(51, 50 + size));
        x.braid(0, 1, 2);
        x.unbraid(2, 2, 3);
        Check.due("first " + size, x.text(2, false), x.text(0, false));
        Check.due("second " + size, x.text(3, false), x.text(1, false));
      }
    }
  }
}
