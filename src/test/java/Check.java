/** What the tests share: compares answers, tells those that are not due, and ends with exit code 1 if there was one. */
final class Check {
  static final Class<? extends RuntimeException> INDEX = IndexOutOfBoundsException.class;
  static final Class<? extends RuntimeException> ARGUMENT = IllegalArgumentException.class;

  private static int checks = 0;
  private static int wrong = 0;

  private Check() {}

  interface Call {
    Object answer();
  }

  static void due(String what, Object got, Object want) {
    checks++;
    if (!want.equals(got)) {
      wrong++;
      System.out.println(what + " answered " + got + ", due is " + want);
    }
  }

  /** The exception is thrown (just this class), and nothing is changed by the call. */
  static void fails(String what, Twostacks x, Class<? extends RuntimeException> want, Call call) {
    long before = x.digest();
    Object got;
    try {
      got = call.answer();
    } catch (RuntimeException e) {
      got = e.getClass();
    }
    due(what, got, want);
    due("digest() after " + what, x.digest(), before);
  }

  /** REFUSED is answered; nothing is changed by the call but the number of these. */
  static void refused(String what, Twostacks x, Call call) {
    String before = everything(x);
    int refusals = x.house(2);
    due(what, call.answer(), -9);
    due("house(2) after " + what, x.house(2), refusals + 1);
    due("all after " + what, everything(x), before);
  }

  /** The call changes nothing, whatever it answers. */
  static void asksOnly(String what, Twostacks x, Call call) {
    long before = x.digest();
    Object first = call.answer();
    due("once more " + what, call.answer(), first);
    due("digest() after " + what, x.digest(), before);
  }

  /** All that can be asked but the number of REFUSED. */
  static String everything(Twostacks x) {
    StringBuilder all = new StringBuilder();
    for (int deque = 0; deque < 4; deque++) {
      all.append(x.text(deque, false)).append('/').append(x.text(deque, true)).append(';');
    }
    all.append(x.queue()).append(';');
    for (int what = 0; what < 6; what++) {
      all.append(x.ofQueue(what)).append(' ').append(x.ofWindow(what)).append(';');
    }
    all.append(x.window()).append(';').append(x.candidates(false)).append(';').append(x.candidates(true));
    all.append(';').append(x.ring()).append(';').append(x.house(0)).append(' ').append(x.house(1));
    return all.append(' ').append(x.house(3)).toString();
  }

  /** An object whose DEQUE has these THINGS, "" for none. */
  static Twostacks with(int deque, String things) {
    return fill(new Twostacks(), deque, things);
  }

  static Twostacks fill(Twostacks x, int deque, String things) {
    x.clear(deque);
    if (!things.isEmpty()) {
      for (String thing : things.split(" ")) {
        x.put(deque, 1, 0, Integer.parseInt(thing));
      }
    }
    return x;
  }

  /** The numbers from one to another one as a text. */
  static String numbers(int first, int last) {
    StringBuilder text = new StringBuilder();
    for (int i = first; i <= last; i++) {
      text.append(i > first ? " " : "").append(i);
    }
    return text.toString();
  }

  static void end(String test) {
    System.out.println(test + ": " + checks + " checks, " + wrong + " wrong");
    if (wrong != 0 || checks == 0) {
      System.exit(1);
    }
  }
}
