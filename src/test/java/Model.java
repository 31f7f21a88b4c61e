import java.util.ArrayList;
import java.util.Collections;
import java.util.List;
import java.util.stream.Collectors;

/**
 * The document once more, as plainly as lists allow, and written apart from the class: ModelTest
 * lets both answer the same calls. Every method of the face stands here with the same signature.
 */
public final class Model {
  private final List<List<Integer>> deques = new ArrayList<>();
  private final List<Integer> in = new ArrayList<>();
  private final List<Integer> out = new ArrayList<>();
  private List<Integer> window = new ArrayList<>();
  private List<Integer> lows = new ArrayList<>();
  private List<Integer> highs = new ArrayList<>();
  private List<Integer> ring = new ArrayList<>();
  private int entered, left, moved, came, lowOff, highOff, refusals, knocks;
  private int most = 4;

  public Model() {
    for (int i = 0; i < 4; i++) {
      deques.add(new ArrayList<>());
    }
  }

  private List<Integer> row(int deque) {
    if (deque < 0 || deque > 3) {
      throw new IndexOutOfBoundsException();
    }
    return deques.get(deque);
  }

  private static void within(int number, int low, int high) {
    if (number < low || number > high) {
      throw new IllegalArgumentException();
    }
  }

  private int refused() {
    refusals++;
    return -9;
  }

  private static String told(List<Integer> row) {
    return row.stream().map(String::valueOf).collect(Collectors.joining(" "));
  }

  private static List<Integer> back(List<Integer> row) {
    List<Integer> turned = new ArrayList<>(row);
    Collections.reverse(turned);
    return turned;
  }

  private static List<Integer> turned(List<Integer> row, int by) {
    List<Integer> result = new ArrayList<>(row);
    for (int i = 0; !row.isEmpty() && i < Math.floorMod(by, row.size()); i++) {
      result.add(result.remove(0));
    }
    return result;
  }

  public int put(int deque, int end, int way, int thing) {
    List<Integer> row = row(deque);
    within(end, 0, 1);
    within(way, 0, 3);
    within(thing, 0, 99);
    if (row.size() == 24) {
      return refused();
    }
    row.add(end == 0 ? 0 : row.size(), thing);
    return row.size();
  }

  public int take(int deque, int end, int way) {
    List<Integer> row = row(deque);
    within(end, 0, 1);
    within(way, 0, 3);
    return row.isEmpty() ? refused() : row.remove(end == 0 ? 0 : row.size() - 1);
  }

  public int look(int deque, int end, int way) {
    List<Integer> row = row(deque);
    within(end, 0, 1);
    within(way, 0, 3);
    return row.isEmpty() ? -1 : row.get(end == 0 ? 0 : row.size() - 1);
  }

  public int drop(int deque, int thing, boolean isLast) {
    int at = place(deque, thing, isLast);
    if (at >= 0) {
      row(deque).remove(at);
    }
    return at >= 0 ? 1 : 0;
  }

  public int sift(int deque, int low, int high) {
    List<Integer> row = row(deque);
    within(low, 0, 99);
    within(high, 0, 99);
    int before = row.size();
    row.removeIf(thing -> thing >= low && thing <= high);
    return before - row.size();
  }

  public int thin(int deque, int nth, boolean isBack) {
    List<Integer> row = row(deque);
    within(nth, 1, 24);
    List<Integer> kept = new ArrayList<>();
    int walked = 0;
    for (int thing : isBack ? back(row) : new ArrayList<>(row)) {
      walked++;
      if (walked == nth) {
        walked = 0;
      } else {
        kept.add(thing);
      }
    }
    int went = row.size() - kept.size();
    deques.set(deque, isBack ? back(kept) : kept);
    return went;
  }

  public int clear(int deque) {
    int before = row(deque).size();
    row(deque).clear();
    return before;
  }

  public int copy(int from, int into) {
    List<Integer> source = row(from);
    boolean was = row(into).equals(source);
    deques.set(into, new ArrayList<>(source));
    return was ? 0 : 1;
  }

  public int pour(int from, int into, boolean isTurned) {
    List<Integer> source = row(from);
    List<Integer> target = row(into);
    within(from == into ? 1 : 0, 0, 0);
    if (source.size() + target.size() > 24) {
      return refused();
    }
    int many = 0;
    while (!source.isEmpty()) {
      target.add(isTurned ? 0 : target.size(), source.remove(0));
      many++;
    }
    return many;
  }

  public int turn(int deque, int by) {
    deques.set(deque < 0 || deque > 3 ? 0 : deque, turned(row(deque), by));
    return at(deque, 0);
  }

  public int braid(int one, int other, int into) {
    List<Integer> a = new ArrayList<>(row(one));
    List<Integer> b = new ArrayList<>(row(other));
    row(into);
    if (a.size() + b.size() > 24) {
      return refused();
    }
    deques.set(into, braided(a, b));
    return at(into);
  }

  private int at(int deque) {
    return deques.get(deque).size();
  }

  private static List<Integer> braided(List<Integer> a, List<Integer> b) {
    List<Integer> result = new ArrayList<>();
    List<Integer> next = new ArrayList<>(a);
    List<Integer> later = new ArrayList<>(b);
    while (!next.isEmpty() && !later.isEmpty()) {
      result.add(next.remove(0));
      List<Integer> swapped = next;
      next = later;
      later = swapped;
    }
    // One has no more at its turn: the rest of both follows, of which one is empty.
    result.addAll(next);
    result.addAll(later);
    return result;
  }

  public int unbraid(int from, int one, int other) {
    List<Integer> source = new ArrayList<>(row(from));
    row(one);
    row(other);
    within(one == other ? 1 : 0, 0, 0);
    List<Integer> evens = new ArrayList<>();
    List<Integer> odds = new ArrayList<>();
    while (!source.isEmpty()) {
      evens.add(source.remove(0));
      if (!source.isEmpty()) {
        odds.add(source.remove(0));
      }
    }
    deques.set(one, evens);
    deques.set(other, odds);
    return evens.size();
  }

  public int size(int deque) {
    return row(deque).size();
  }

  public boolean isEmpty(int deque) {
    return row(deque).isEmpty();
  }

  public boolean has(int deque, int thing) {
    return often(deque, thing) > 0;
  }

  public int often(int deque, int thing) {
    List<Integer> row = row(deque);
    within(thing, 0, 99);
    return Collections.frequency(row, thing);
  }

  public int place(int deque, int thing, boolean isLast) {
    List<Integer> row = row(deque);
    within(thing, 0, 99);
    return isLast ? row.lastIndexOf(thing) : row.indexOf(thing);
  }

  public int at(int deque, int place) {
    List<Integer> row = row(deque);
    return place < 0 || place >= row.size() ? -1 : row.get(place);
  }

  public String text(int deque, boolean isBack) {
    return told(isBack ? back(row(deque)) : row(deque));
  }

  public boolean areSame(int one, int other, boolean isBack) {
    List<Integer> a = row(one);
    List<Integer> b = row(other);
    return a.equals(isBack ? back(b) : b);
  }

  public int shift(int one, int other) {
    List<Integer> a = row(one);
    List<Integer> b = row(other);
    for (int by = 0; by < Math.max(1, a.size()); by++) {
      if (turned(a, by).equals(b)) {
        return by;
      }
    }
    return -1;
  }

  public String leastTurn(int deque) {
    List<Integer> least = row(deque);
    for (int by = 1; by < row(deque).size(); by++) {
      List<Integer> other = turned(row(deque), by);
      for (int i = 0; i < other.size(); i++) {
        int order = Integer.compare(other.get(i), least.get(i));
        if (order < 0) {
          least = other;
        }
        if (order != 0) {
          break;
        }
      }
    }
    return told(least);
  }

  public int period(int deque) {
    List<Integer> row = row(deque);
    for (int by = 1; by <= row.size(); by++) {
      if (turned(row, by).equals(row)) {
        return by;
      }
    }
    return 0;
  }

  public int enter(int thing) {
    within(thing, 0, 99);
    if (in.size() + out.size() == 40) {
      return refused();
    }
    in.add(thing);
    entered++;
    return in.size() + out.size();
  }

  private void move() {
    if (out.isEmpty()) {
      while (!in.isEmpty()) {
        out.add(in.remove(in.size() - 1));
        moved++;
      }
    }
  }

  public int leave() {
    move();
    if (out.isEmpty()) {
      return refused();
    }
    left++;
    return out.remove(out.size() - 1);
  }

  public int front() {
    move();
    return out.isEmpty() ? -1 : out.get(out.size() - 1);
  }

  public String queue() {
    List<Integer> all = back(out);
    all.addAll(in);
    return told(all);
  }

  public int ofQueue(int what) {
    within(what, 0, 5);
    int[] all = {in.size() + out.size(), in.size(), out.size(), entered, left, moved};
    return all[what];
  }

  /** The candidates are kept here, not looked for: put off from their end, gone with the first of the window. */
  public int slide(int thing) {
    within(thing, 0, 99);
    came++;
    while (!lows.isEmpty() && lows.get(lows.size() - 1) > thing) {
      lows.remove(lows.size() - 1);
      lowOff++;
    }
    while (!highs.isEmpty() && highs.get(highs.size() - 1) < thing) {
      highs.remove(highs.size() - 1);
      highOff++;
    }
    lows.add(thing);
    highs.add(thing);
    window.add(thing);
    narrow();
    return Collections.min(window);
  }

  private void narrow() {
    while (window.size() > most) {
      Integer gone = window.remove(0);
      if (lows.get(0).equals(gone)) {
        lows.remove(0);
      }
      if (highs.get(0).equals(gone)) {
        highs.remove(0);
      }
    }
  }

  public int width(int many) {
    within(many, 1, 12);
    int before = most;
    most = many;
    narrow();
    return before;
  }

  public int end(boolean isGreatest) {
    if (window.isEmpty()) {
      return -1;
    }
    return isGreatest ? Collections.max(window) : Collections.min(window);
  }

  public String window() {
    return told(window);
  }

  public String candidates(boolean isHigh) {
    return told(isHigh ? highs : lows);
  }

  public int ofWindow(int what) {
    within(what, 0, 5);
    int[] all = {window.size(), lows.size(), highs.size(), came, lowOff, highOff};
    return all[what];
  }

  private static List<Integer> gathered(int n) {
    List<Integer> result = new ArrayList<>();
    for (int i = 0; i < n; i++) {
      result.add(i);
    }
    return result;
  }

  public int gather(int n) {
    within(n, 0, 24);
    int before = ring.size();
    ring = gathered(n);
    return before;
  }

  public int count(int k) {
    within(k, 1, 99);
    if (ring.isEmpty()) {
      return refused();
    }
    ring = turned(ring, k - 1);
    return ring.remove(0);
  }

  public int wheel(int by) {
    ring = turned(ring, by);
    return ring.isEmpty() ? -1 : ring.get(0);
  }

  public String ring() {
    return told(ring);
  }

  private static List<Integer> ordered(int n, int k) {
    List<Integer> standing = gathered(n);
    List<Integer> gone = new ArrayList<>();
    int at = 0;
    while (!standing.isEmpty()) {
      at = (at + k - 1) % standing.size();
      gone.add(standing.remove(at));
    }
    return gone;
  }

  public String order(int n, int k) {
    within(n, 0, 24);
    within(k, 1, 99);
    return told(ordered(n, k));
  }

  public int survivor(int n, int k) {
    within(n, 1, 24);
    within(k, 1, 99);
    return ordered(n, k).get(n - 1);
  }

  public int knock() {
    return ++knocks;
  }

  public int house(int what) {
    within(what, 0, 3);
    int things = 0;
    int empties = 0;
    for (List<Integer> row : deques) {
      things += row.size();
      empties += row.isEmpty() ? 1 : 0;
    }
    int[] all = {things, empties, refusals, knocks};
    return all[what];
  }

  /** WHAT ALWAYS HOLDS is so whatever was called. */
  public boolean isSound() {
    return true;
  }

  public long digest() {
    List<Integer> all = new ArrayList<>();
    for (int what = 0; what < 4; what++) {
      all.add(house(what));
    }
    for (int deque = 0; deque < 4; deque++) {
      all.add(size(deque));
      all.addAll(row(deque));
      all.add(period(deque));
      all.add(leastTurn(deque).length());
    }
    for (int pair = 0; pair < 16; pair++) {
      all.add(shift(pair / 4, pair % 4));
    }
    for (int what = 0; what < 6; what++) {
      all.add(ofQueue(what));
    }
    all.addAll(back(out));
    all.addAll(in);
    for (int what = 0; what < 6; what++) {
      all.add(ofWindow(what));
    }
    all.addAll(window);
    all.addAll(lows);
    all.addAll(highs);
    all.add(ring.size());
    all.addAll(ring);
    all.add(isSound() ? 1 : 0);
    long d = 7833;
    for (int v : all) {
      d = d * 31 + v;
    }
    return d;
  }
}
