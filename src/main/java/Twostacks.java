/**
 * Four rows with two ends, a queue of two stacks, a window with its candidates and a ring by which
 * is counted out. The document (../shared/DOC.md) says what each call answers.
 *
 * <p>The rows that only one call needs are made once, in the constructor, and used again by every
 * call: so asking makes no objects but the text that it answers.
 */
public final class Twostacks {
  private static final int NONE = -1;
  private static final int REFUSED = -9;
  private static final int GREATEST_THING = 99;
  private static final int DEQUES = 4;
  private static final int DEQUE_ROOM = 24;
  private static final int GREATEST_WAY = 3;
  private static final int QUEUE_ROOM = 40;
  private static final int FIRST_WIDTH = 4;
  private static final int GREATEST_WIDTH = 12;
  private static final int RING_ROOM = 24;
  private static final int GREATEST_STEP = 99;
  private static final int GREATEST_OF_PART = 5;
  private static final int GREATEST_OF_HOUSE = 3;
  private static final int SOUND_RINGS = 12;
  private static final int SOUND_STEPS = 5;
  private static final long DIGEST_START = 7833;

  private final Row[] deques;
  private final StackQueue stackQueue;
  private final SlidingWindow slidingWindow;
  private final Row ringRow;
  private final Row spareOne;
  private final Row spareOther;
  private final Row spareBraid;
  private final Row spareRing;
  private int refusals;
  private int knocks;

  public Twostacks() {
    deques = new Row[DEQUES];
    for (int i = 0; i < deques.length; i++) {
      deques[i] = new Row(DEQUE_ROOM);
    }
    stackQueue = new StackQueue();
    slidingWindow = new SlidingWindow();
    ringRow = new Row(RING_ROOM);
    spareOne = new Row(DEQUE_ROOM);
    spareOther = new Row(DEQUE_ROOM);
    // isSound() braids any two DEQUES, also such as braid() would refuse.
    spareBraid = new Row(2 * DEQUE_ROOM);
    spareRing = new Row(RING_ROOM);
  }

  // ---- deques: what changes them

  public int put(int deque, int end, int way, int thing)
      throws IndexOutOfBoundsException, IllegalArgumentException {
    Row row = dequeOf(deque);
    needEndAndWay(end, way);
    needThing(thing);
    if (row.many() >= DEQUE_ROOM) {
      return refuse();
    }
    if (end == 0) {
      row.addFirst(thing);
    } else {
      row.addLast(thing);
    }
    return row.many();
  }

  public int take(int deque, int end, int way)
      throws IndexOutOfBoundsException, IllegalArgumentException {
    Row row = dequeOf(deque);
    needEndAndWay(end, way);
    if (row.many() == 0) {
      return refuse();
    }
    return row.removeAt(placeOfEnd(row, end));
  }

  public int look(int deque, int end, int way)
      throws IndexOutOfBoundsException, IllegalArgumentException {
    Row row = dequeOf(deque);
    needEndAndWay(end, way);
    return row.thingAt(placeOfEnd(row, end));
  }

  public int drop(int deque, int thing, boolean isLast)
      throws IndexOutOfBoundsException, IllegalArgumentException {
    Row row = dequeOf(deque);
    needThing(thing);
    int found = row.placeOf(thing, isLast);
    if (found == NONE) {
      return 0;
    }
    row.removeAt(found);
    return 1;
  }

  public int sift(int deque, int low, int high)
      throws IndexOutOfBoundsException, IllegalArgumentException {
    Row row = dequeOf(deque);
    needThing(low);
    needThing(high);
    spareOne.become(row);
    row.empty();
    for (int i = 0; i < spareOne.many(); i++) {
      int thing = spareOne.thingAt(i);
      if (thing < low || thing > high) {
        row.addLast(thing);
      }
    }
    return spareOne.many() - row.many();
  }

  public int thin(int deque, int nth, boolean isBack)
      throws IndexOutOfBoundsException, IllegalArgumentException {
    Row row = dequeOf(deque);
    needWithin(nth, 1, DEQUE_ROOM);
    spareOne.become(row);
    row.empty();
    int many = spareOne.many();
    for (int i = 0; i < many; i++) {
      int comeTo = isBack ? many - i : i + 1;
      if (comeTo % nth != 0) {
        row.addLast(spareOne.thingAt(i));
      }
    }
    return many - row.many();
  }

  public int clear(int deque)
      throws IndexOutOfBoundsException {
    Row row = dequeOf(deque);
    int before = row.many();
    row.empty();
    return before;
  }

  public int copy(int from, int into)
      throws IndexOutOfBoundsException {
    Row source = dequeOf(from);
    Row target = dequeOf(into);
    int changed = target.isSameAs(source) ? 0 : 1;
    target.become(source);
    return changed;
  }

  public int pour(int from, int into, boolean isTurned)
      throws IndexOutOfBoundsException, IllegalArgumentException {
    Row source = dequeOf(from);
    Row target = dequeOf(into);
    needSo(from != into);
    int many = source.many();
    if (many + target.many() > DEQUE_ROOM) {
      return refuse();
    }
    for (int i = 0; i < many; i++) {
      if (isTurned) {
        target.addFirst(source.thingAt(i));
      } else {
        target.addLast(source.thingAt(i));
      }
    }
    source.empty();
    return many;
  }

  public int turn(int deque, int by)
      throws IndexOutOfBoundsException {
    Row row = dequeOf(deque);
    row.turnBy(by);
    return row.thingAt(0);
  }

  public int braid(int one, int other, int into)
      throws IndexOutOfBoundsException {
    Row first = dequeOf(one);
    Row second = dequeOf(other);
    Row target = dequeOf(into);
    if (first.many() + second.many() > DEQUE_ROOM) {
      return refuse();
    }
    braidToSpare(first, second);
    target.become(spareBraid);
    return target.many();
  }

  public int unbraid(int from, int one, int other)
      throws IndexOutOfBoundsException, IllegalArgumentException {
    Row source = dequeOf(from);
    Row first = dequeOf(one);
    Row second = dequeOf(other);
    needSo(one != other);
    unbraidToSpares(source);
    first.become(spareOne);
    second.become(spareOther);
    return first.many();
  }

  // ---- deques: what is asked of them

  public int size(int deque)
      throws IndexOutOfBoundsException {
    return dequeOf(deque).many();
  }

  public boolean isEmpty(int deque)
      throws IndexOutOfBoundsException {
    return dequeOf(deque).many() == 0;
  }

  public boolean has(int deque, int thing)
      throws IndexOutOfBoundsException, IllegalArgumentException {
    Row row = dequeOf(deque);
    needThing(thing);
    return row.placeOf(thing, false) != NONE;
  }

  public int often(int deque, int thing)
      throws IndexOutOfBoundsException, IllegalArgumentException {
    Row row = dequeOf(deque);
    needThing(thing);
    return row.howOften(thing);
  }

  public int place(int deque, int thing, boolean isLast)
      throws IndexOutOfBoundsException, IllegalArgumentException {
    Row row = dequeOf(deque);
    needThing(thing);
    return row.placeOf(thing, isLast);
  }

  public int at(int deque, int place)
      throws IndexOutOfBoundsException {
    return dequeOf(deque).thingAt(place);
  }

  public String text(int deque, boolean isBack)
      throws IndexOutOfBoundsException {
    return told(dequeOf(deque), isBack).asText();
  }

  public boolean areSame(int one, int other, boolean isBack)
      throws IndexOutOfBoundsException {
    Row first = dequeOf(one);
    Row second = dequeOf(other);
    return first.isSameAs(told(second, isBack));
  }

  public int shift(int one, int other)
      throws IndexOutOfBoundsException {
    Row first = dequeOf(one);
    Row second = dequeOf(other);
    return first.shiftTo(second);
  }

  public String leastTurn(int deque)
      throws IndexOutOfBoundsException {
    Row row = dequeOf(deque);
    leastTurnTo(spareOne, row);
    return spareOne.asText();
  }

  public int period(int deque)
      throws IndexOutOfBoundsException {
    return dequeOf(deque).leastPeriod();
  }

  // ---- the queue

  public int enter(int thing)
      throws IllegalArgumentException {
    needThing(thing);
    if (stackQueue.many() >= QUEUE_ROOM) {
      return refuse();
    }
    stackQueue.addLast(thing);
    return stackQueue.many();
  }

  public int leave() {
    if (stackQueue.many() == 0) {
      return refuse();
    }
    return stackQueue.removeFirst();
  }

  public int front() {
    return stackQueue.lookAtFirst();
  }

  public String queue() {
    return stackQueue.asRow().asText();
  }

  public int ofQueue(int what)
      throws IllegalArgumentException {
    needWithin(what, 0, GREATEST_OF_PART);
    return stackQueue.number(what);
  }

  // ---- the window

  public int slide(int thing)
      throws IllegalArgumentException {
    needThing(thing);
    slidingWindow.come(thing);
    return slidingWindow.firstCandidate(false);
  }

  public int width(int many)
      throws IllegalArgumentException {
    needWithin(many, 1, GREATEST_WIDTH);
    return slidingWindow.changeWidth(many);
  }

  public int end(boolean isGreatest) {
    return slidingWindow.firstCandidate(isGreatest);
  }

  public String window() {
    return slidingWindow.asRow().asText();
  }

  public String candidates(boolean isHigh) {
    return slidingWindow.candidateRow(isHigh).asText();
  }

  public int ofWindow(int what)
      throws IllegalArgumentException {
    needWithin(what, 0, GREATEST_OF_PART);
    return slidingWindow.number(what);
  }

  // ---- the ring

  public int gather(int n)
      throws IllegalArgumentException {
    needWithin(n, 0, RING_ROOM);
    int before = ringRow.many();
    ringRow.becomeNumbers(n);
    return before;
  }

  public int count(int k)
      throws IllegalArgumentException {
    needWithin(k, 1, GREATEST_STEP);
    if (ringRow.many() == 0) {
      return refuse();
    }
    return ringRow.countOut(k);
  }

  public int wheel(int by) {
    ringRow.turnBy(by);
    return ringRow.thingAt(0);
  }

  public String ring() {
    return ringRow.asText();
  }

  public String order(int n, int k)
      throws IllegalArgumentException {
    needWithin(n, 0, RING_ROOM);
    needWithin(k, 1, GREATEST_STEP);
    orderToSpare(n, k);
    return spareOne.asText();
  }

  public int survivor(int n, int k)
      throws IllegalArgumentException {
    needWithin(n, 1, RING_ROOM);
    needWithin(k, 1, GREATEST_STEP);
    return lastOfOrder(n, k);
  }

  // ---- the house

  public int knock() {
    knocks++;
    return knocks;
  }

  public int house(int what)
      throws IllegalArgumentException {
    needWithin(what, 0, GREATEST_OF_HOUSE);
    switch (what) {
      case 0:
        return thingsInDeques();
      case 1:
        return emptyDeques();
      case 2:
        return refusals;
      default:
        return knocks;
    }
  }

  public boolean isSound() {
    for (int i = 0; i < deques.length; i++) {
      if (!isBackWalkSound(deques[i]) || !isPeriodSound(deques[i])) {
        return false;
      }
      for (int j = 0; j < deques.length; j++) {
        if (!areTurnsSound(deques[i], deques[j]) || !isBraidSound(deques[i], deques[j])) {
          return false;
        }
      }
    }
    return stackQueue.isSoundQueue()
        && slidingWindow.isSoundWindow()
        && areSurvivorsSound();
  }

  public long digest() {
    long sum = DIGEST_START;
    for (int what = 0; what <= GREATEST_OF_HOUSE; what++) {
      sum = joined(sum, house(what));
    }
    sum = joinedDeques(sum);
    sum = joinedShifts(sum);
    sum = joinedQueue(sum);
    sum = joinedWindow(sum);
    sum = joined(sum, ringRow.many());
    sum = joinedRow(sum, ringRow);
    return joined(sum, isSound() ? 1 : 0);
  }

  // ---- what the calls need to be so

  private Row dequeOf(int deque) {
    if (deque < 0 || deque >= deques.length) {
      throw new IndexOutOfBoundsException("there is no such deque");
    }
    return deques[deque];
  }

  private static void needEndAndWay(int end, int way) {
    needWithin(end, 0, 1);
    needWithin(way, 0, GREATEST_WAY);
  }

  private static void needThing(int thing) {
    needWithin(thing, 0, GREATEST_THING);
  }

  private static void needWithin(int number, int least, int greatest) {
    needSo(number >= least && number <= greatest);
  }

  private static void needSo(boolean isSo) {
    if (!isSo) {
      throw new IllegalArgumentException("this is not one of what the call takes");
    }
  }

  private int refuse() {
    refusals++;
    return REFUSED;
  }

  // ---- parts of the calls on deques

  private static int placeOfEnd(Row row, int end) {
    return end == 0 ? 0 : row.many() - 1;
  }

  private Row told(Row row, boolean isBack) {
    if (!isBack) {
      return row;
    }
    spareOne.empty();
    for (int i = row.many() - 1; i >= 0; i--) {
      spareOne.addLast(row.thingAt(i));
    }
    return spareOne;
  }

  private static void leastTurnTo(Row into, Row row) {
    into.become(row);
    into.turnBy(row.leastStart());
  }

  private void braidToSpare(Row first, Row second) {
    spareBraid.empty();
    int longer = Math.max(first.many(), second.many());
    for (int i = 0; i < longer; i++) {
      if (i < first.many()) {
        spareBraid.addLast(first.thingAt(i));
      }
      if (i < second.many()) {
        spareBraid.addLast(second.thingAt(i));
      }
    }
  }

  private void unbraidToSpares(Row source) {
    spareOne.empty();
    spareOther.empty();
    for (int i = 0; i < source.many(); i++) {
      Row into = i % 2 == 0 ? spareOne : spareOther;
      into.addLast(source.thingAt(i));
    }
  }

  private int thingsInDeques() {
    int things = 0;
    for (int i = 0; i < deques.length; i++) {
      things += deques[i].many();
    }
    return things;
  }

  private int emptyDeques() {
    int empties = 0;
    for (int i = 0; i < deques.length; i++) {
      if (deques[i].many() == 0) {
        empties++;
      }
    }
    return empties;
  }

  // ---- parts of the calls on the ring

  private void orderToSpare(int n, int k) {
    spareRing.becomeNumbers(n);
    spareOne.empty();
    for (int i = 0; i < n; i++) {
      spareOne.addLast(spareRing.countOut(k));
    }
  }

  private int lastOfOrder(int n, int k) {
    spareRing.becomeNumbers(n);
    for (int i = 1; i < n; i++) {
      spareRing.countOut(k);
    }
    return spareRing.thingAt(0);
  }

  // ---- parts of isSound

  private boolean isBackWalkSound(Row row) {
    spareOther.empty();
    for (int i = 0; i < row.many(); i++) {
      spareOther.addFirst(row.thingAt(i));
    }
    return told(row, true).isSameAs(spareOther);
  }

  private boolean isPeriodSound(Row row) {
    int least = row.leastPeriod();
    if (row.many() == 0 || least <= 0) {
      return row.many() == 0 && least == 0;
    }
    if (row.many() % least != 0) {
      return false;
    }
    for (int by = 1; by <= least; by++) {
      spareOne.become(row);
      spareOne.turnBy(by);
      if (spareOne.isSameAs(row) != (by == least)) {
        return false;
      }
    }
    return true;
  }

  private boolean areTurnsSound(Row first, Row second) {
    if (first.many() != second.many()) {
      return true;
    }
    leastTurnTo(spareOne, first);
    leastTurnTo(spareOther, second);
    boolean isTurn = first.shiftTo(second) != NONE;
    return isTurn == spareOne.isSameAs(spareOther);
  }

  private boolean isBraidSound(Row first, Row second) {
    int longerBy = first.many() - second.many();
    if (longerBy < 0 || longerBy > 1) {
      return true;
    }
    braidToSpare(first, second);
    unbraidToSpares(spareBraid);
    return first.isSameAs(spareOne) && second.isSameAs(spareOther);
  }

  private boolean areSurvivorsSound() {
    for (int k = 1; k <= SOUND_STEPS; k++) {
      int before = lastOfOrder(1, k);
      for (int n = 2; n <= SOUND_RINGS; n++) {
        int last = lastOfOrder(n, k);
        if (last != (before + k) % n) {
          return false;
        }
        before = last;
      }
    }
    return true;
  }

  // ---- parts of digest

  private static long joined(long sum, int number) {
    return sum * 31 + number;
  }

  private static long joinedRow(long sum, Row row) {
    long result = sum;
    for (int i = 0; i < row.many(); i++) {
      result = joined(result, row.thingAt(i));
    }
    return result;
  }

  private long joinedDeques(long sum) {
    long result = sum;
    for (int i = 0; i < deques.length; i++) {
      Row row = deques[i];
      result = joined(result, row.many());
      result = joinedRow(result, row);
      result = joined(result, row.leastPeriod());
      leastTurnTo(spareOne, row);
      result = joined(result, spareOne.textLength());
    }
    return result;
  }

  private long joinedShifts(long sum) {
    long result = sum;
    for (int i = 0; i < deques.length; i++) {
      for (int j = 0; j < deques.length; j++) {
        result = joined(result, deques[i].shiftTo(deques[j]));
      }
    }
    return result;
  }

  private long joinedQueue(long sum) {
    long result = sum;
    for (int what = 0; what <= GREATEST_OF_PART; what++) {
      result = joined(result, stackQueue.number(what));
    }
    return joinedRow(result, stackQueue.asRow());
  }

  private long joinedWindow(long sum) {
    long result = sum;
    for (int what = 0; what <= GREATEST_OF_PART; what++) {
      result = joined(result, slidingWindow.number(what));
    }
    result = joinedRow(result, slidingWindow.asRow());
    result = joinedRow(result, slidingWindow.candidateRow(false));
    return joinedRow(result, slidingWindow.candidateRow(true));
  }

  /** A row of numbers from 0 on, of no more than its room; what is beyond that is left out. */
  private static final class Row {
    private final int[] things;
    private int many;

    Row(int room) {
      things = new int[Math.max(room, 0)];
      many = 0;
    }

    int many() {
      return many;
    }

    int thingAt(int place) {
      return place >= 0 && place < many ? things[place] : NONE;
    }

    /** Behind the last place the first one comes again. */
    private int thingRound(int place) {
      return place >= 0 && many > 0 ? things[place % many] : NONE;
    }

    void empty() {
      many = 0;
    }

    void addLast(int thing) {
      if (many < things.length) {
        things[many] = thing;
        many++;
      }
    }

    void addFirst(int thing) {
      if (many < things.length) {
        System.arraycopy(things, 0, things, 1, many);
        things[0] = thing;
        many++;
      }
    }

    int removeAt(int place) {
      if (place < 0 || place >= many) {
        return NONE;
      }
      int thing = things[place];
      many--;
      System.arraycopy(things, place + 1, things, place, many - place);
      return thing;
    }

    void keepLast(int most) {
      int tooMany = many - Math.max(most, 0);
      if (tooMany > 0) {
        many -= tooMany;
        System.arraycopy(things, tooMany, things, 0, many);
      }
    }

    void become(Row other) {
      many = Math.min(other.many, things.length);
      System.arraycopy(other.things, 0, things, 0, many);
    }

    void becomeNumbers(int n) {
      empty();
      for (int i = 0; i < n; i++) {
        addLast(i);
      }
    }

    void turnBy(int by) {
      if (many == 0) {
        return;
      }
      int ahead = Math.floorMod(by, many);
      // Each part turned end for end, then the whole: the parts have changed places.
      reverse(0, ahead);
      reverse(ahead, many);
      reverse(0, many);
    }

    private void reverse(int from, int beyond) {
      int high = beyond - 1;
      for (int low = from; low >= 0 && low < high && high < many; low++) {
        int thing = things[low];
        things[low] = things[high];
        things[high] = thing;
        high--;
      }
    }

    int countOut(int k) {
      turnBy(k - 1);
      return removeAt(0);
    }

    int placeOf(int thing, boolean isLast) {
      int found = NONE;
      for (int i = 0; i < many; i++) {
        if (things[i] == thing && (isLast || found == NONE)) {
          found = i;
        }
      }
      return found;
    }

    int howOften(int thing) {
      int times = 0;
      for (int i = 0; i < many; i++) {
        if (things[i] == thing) {
          times++;
        }
      }
      return times;
    }

    boolean isSameAs(Row other) {
      return isTurnedTo(other, 0);
    }

    private boolean isTurnedTo(Row other, int by) {
      if (many != other.many) {
        return false;
      }
      for (int i = 0; i < many; i++) {
        if (thingRound(i + by) != other.thingAt(i)) {
          return false;
        }
      }
      return true;
    }

    int shiftTo(Row other) {
      if (many == 0 && other.many == 0) {
        return 0;
      }
      for (int by = 0; by < many; by++) {
        if (isTurnedTo(other, by)) {
          return by;
        }
      }
      return NONE;
    }

    int leastPeriod() {
      for (int by = 1; by <= many; by++) {
        if (isTurnedTo(this, by)) {
          return by;
        }
      }
      return 0;
    }

    int leastStart() {
      int least = 0;
      for (int start = 1; start < many; start++) {
        if (isLessFrom(start, least)) {
          least = start;
        }
      }
      return least;
    }

    private boolean isLessFrom(int start, int other) {
      for (int i = 0; i < many; i++) {
        int difference = thingRound(start + i) - thingRound(other + i);
        if (difference != 0) {
          return difference < 0;
        }
      }
      return false;
    }

    String asText() {
      StringBuilder text = new StringBuilder();
      for (int i = 0; i < many; i++) {
        if (i > 0) {
          text.append(' ');
        }
        text.append(thingAt(i));
      }
      return text.toString();
    }

    /** How long asText() is, without making it: all numbers here have one or two digits. */
    int textLength() {
      int length = Math.max(many - 1, 0);
      for (int i = 0; i < many; i++) {
        length += thingAt(i) < 10 ? 1 : 2;
      }
      return length;
    }
  }

  /** The queue of the stacks IN and OUT; both are rows with their bottom first. */
  private static final class StackQueue {
    private final Row in;
    private final Row out;
    private final Row spare;
    private int entered;
    private int left;
    private int moved;

    StackQueue() {
      in = new Row(QUEUE_ROOM);
      out = new Row(QUEUE_ROOM);
      spare = new Row(QUEUE_ROOM);
    }

    int many() {
      return in.many() + out.many();
    }

    void addLast(int thing) {
      in.addLast(thing);
      entered++;
    }

    int removeFirst() {
      moveWhenDue();
      left++;
      return out.removeAt(out.many() - 1);
    }

    int lookAtFirst() {
      moveWhenDue();
      return out.thingAt(out.many() - 1);
    }

    private void moveWhenDue() {
      if (out.many() > 0) {
        return;
      }
      for (int top = in.many() - 1; top >= 0; top--) {
        out.addLast(in.removeAt(top));
        moved++;
      }
    }

    Row asRow() {
      spare.empty();
      for (int top = out.many() - 1; top >= 0; top--) {
        spare.addLast(out.thingAt(top));
      }
      for (int i = 0; i < in.many(); i++) {
        spare.addLast(in.thingAt(i));
      }
      return spare;
    }

    int number(int what) {
      switch (what) {
        case 0:
          return many();
        case 1:
          return in.many();
        case 2:
          return out.many();
        case 3:
          return entered;
        case 4:
          return left;
        default:
          return moved;
      }
    }

    boolean isSoundQueue() {
      return entered == left + many() && moved == left + out.many();
    }
  }

  /** The window; its candidates are told from its row each time, so they are just what it says. */
  private static final class SlidingWindow {
    private final Row row;
    private final Row spare;
    private int most;
    private int came;
    private int lowPutOff;
    private int highPutOff;

    SlidingWindow() {
      // One more than WIDTH: the thing that comes stands there before the first one goes.
      row = new Row(GREATEST_WIDTH + 1);
      spare = new Row(GREATEST_WIDTH + 1);
      most = FIRST_WIDTH;
    }

    void come(int thing) {
      lowPutOff += putOffBy(thing, false);
      highPutOff += putOffBy(thing, true);
      came++;
      row.addLast(thing);
      row.keepLast(most);
    }

    private int putOffBy(int thing, boolean isHigh) {
      Row standing = candidateRow(isHigh);
      int off = 0;
      for (int i = 0; i < standing.many(); i++) {
        if (isAhead(thing, standing.thingAt(i), isHigh)) {
          off++;
        }
      }
      return off;
    }

    int changeWidth(int many) {
      int before = most;
      most = many;
      row.keepLast(most);
      return before;
    }

    Row asRow() {
      return row;
    }

    Row candidateRow(boolean isHigh) {
      spare.empty();
      for (int i = 0; i < row.many(); i++) {
        if (isCandidate(i, isHigh)) {
          spare.addLast(row.thingAt(i));
        }
      }
      return spare;
    }

    private boolean isCandidate(int place, boolean isHigh) {
      for (int behind = place + 1; behind < row.many(); behind++) {
        if (isAhead(row.thingAt(behind), row.thingAt(place), isHigh)) {
          return false;
        }
      }
      return true;
    }

    private static boolean isAhead(int thing, int other, boolean isHigh) {
      return isHigh ? thing > other : thing < other;
    }

    int firstCandidate(boolean isHigh) {
      return candidateRow(isHigh).thingAt(0);
    }

    int number(int what) {
      switch (what) {
        case 0:
          return row.many();
        case 1:
          return candidateRow(false).many();
        case 2:
          return candidateRow(true).many();
        case 3:
          return came;
        case 4:
          return lowPutOff;
        default:
          return highPutOff;
      }
    }

    boolean isSoundWindow() {
      return firstCandidate(false) == foundOneByOne(false)
          && firstCandidate(true) == foundOneByOne(true);
    }

    private int foundOneByOne(boolean isHigh) {
      int found = row.thingAt(0);
      for (int i = 1; i < row.many(); i++) {
        if (isAhead(row.thingAt(i), found, isHigh)) {
          found = row.thingAt(i);
        }
      }
      return found;
    }
  }
}
