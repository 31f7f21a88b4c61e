/** Promises 30 to 35: the window and its candidates. */
public final class WindowTest {
  public static void main(String[] args) {
    slide();
    likeOnesStay();
    putOffAlsoWhatGoesAtOnce();
    putOffByOneThatIsAloneThen();
    width();
    narrowedCandidates();
    empty();
    widest();
    wrongInputs();
    Check.end("WindowTest");
  }

  /** Asks for all that ofWindow() tells: here, low, high, came, put off low, put off high. */
  private static void numbersDue(Twostacks x, String want) {
    StringBuilder got = new StringBuilder();
    for (int what = 0; what < 6; what++) {
      got.append(what > 0 ? " " : "").append(x.ofWindow(what));
    }
    Check.due("ofWindow", got.toString(), want);
  }

  private static void rowsDue(Twostacks x, String window, String low, String high) {
    Check.due("window", x.window(), window);
    Check.due("low candidates", x.candidates(false), low);
    Check.due("high candidates", x.candidates(true), high);
    Check.asksOnly("window", x, x::window);
    Check.asksOnly("candidates", x, () -> x.candidates(false));
    Check.asksOnly("candidates", x, () -> x.candidates(true));
  }

  private static void slide() {
    Twostacks x = new Twostacks();
    Check.due("slide", x.slide(5), 5);
    Check.due("slide", x.slide(3), 3);
    Check.due("slide", x.slide(8), 3);
    Check.due("slide", x.slide(6), 3);
    rowsDue(x, "5 3 8 6", "3 6", "8 6");
    numbersDue(x, "4 2 2 4 2 2");
    Check.due("slide, the first one goes", x.slide(7), 3);
    rowsDue(x, "3 8 6 7", "3 6 7", "8 7");
    Check.due("slide, the least one goes", x.slide(9), 6);
    rowsDue(x, "8 6 7 9", "6 7 9", "9");
    numbersDue(x, "4 3 1 6 2 5");
    Check.due("least", x.end(false), 6);
    Check.due("greatest", x.end(true), 9);
  }

  private static void likeOnesStay() {
    Twostacks x = new Twostacks();
    for (int i = 0; i < 3; i++) {
      x.slide(4);
    }
    rowsDue(x, "4 4 4", "4 4 4", "4 4 4");
    numbersDue(x, "3 3 3 3 0 0");
    x.slide(4);
    x.slide(4);
    numbersDue(x, "4 4 4 5 0 0");
    x.slide(3);
    numbersDue(x, "4 1 4 6 4 0");
    x.slide(5);
    numbersDue(x, "4 2 1 7 4 4");
  }

  private static void putOffAlsoWhatGoesAtOnce() {
    Twostacks x = new Twostacks();
    x.slide(9);
    x.slide(9);
    x.slide(9);
    x.slide(9);
    // All four are put off, though the first of them goes from the window by the same call.
    Check.due("slide", x.slide(1), 1);
    numbersDue(x, "4 1 4 5 4 0");
    Twostacks y = new Twostacks();
    y.width(1);
    y.slide(1);
    y.slide(2);
    numbersDue(y, "1 1 1 2 0 1");
    y.slide(0);
    numbersDue(y, "1 1 1 3 1 1");
  }

  private static void putOffByOneThatIsAloneThen() {
    Twostacks x = new Twostacks();
    x.slide(1);
    x.slide(2);
    x.slide(3);
    x.slide(4);
    x.width(2);
    // 1 and 2 went by width(), so they are not put off any more.
    Check.due("slide", x.slide(0), 0);
    rowsDue(x, "4 0", "0", "4 0");
    numbersDue(x, "2 1 2 5 2 3");
  }

  private static void width() {
    Twostacks x = new Twostacks();
    Check.due("width at first", x.width(12), 4);
    for (int i = 1; i <= 12; i++) {
      Check.due("slide", x.slide(i), 1);
    }
    Check.due("the least one goes", x.slide(13), 2);
    Check.due("window", x.window(), Check.numbers(2, 13));
    Check.due("width", x.width(3), 12);
    rowsDue(x, "11 12 13", "11 12 13", "13");
    Check.due("width", x.width(5), 3);
    Check.due("wider brings none back", x.window(), "11 12 13");
    x.slide(1);
    x.slide(2);
    x.slide(3);
    Check.due("window", x.window(), "12 13 1 2 3");
    Check.due("width", x.width(1), 5);
    Check.due("window", x.window(), "3");
    Check.due("the same width", x.width(1), 1);
    numbersDue(x, "1 1 1 16 3 14");
  }

  private static void narrowedCandidates() {
    Twostacks x = new Twostacks();
    x.slide(1);
    x.slide(9);
    x.slide(5);
    x.slide(7);
    rowsDue(x, "1 9 5 7", "1 5 7", "9 7");
    x.width(3);
    rowsDue(x, "9 5 7", "5 7", "9 7");
    x.width(2);
    rowsDue(x, "5 7", "5 7", "7");
    x.width(1);
    rowsDue(x, "7", "7", "7");
  }

  private static void empty() {
    Twostacks x = new Twostacks();
    rowsDue(x, "", "", "");
    Check.due("least of none", x.end(false), -1);
    Check.due("greatest of none", x.end(true), -1);
    numbersDue(x, "0 0 0 0 0 0");
    Check.due("width of none", x.width(1), 4);
    Check.due("no refusal", x.house(2), 0);
  }

  private static void widest() {
    Twostacks x = new Twostacks();
    x.width(12);
    for (int i = 0; i < 12; i++) {
      Check.due("slide", x.slide(99 - i), 99 - i);
    }
    rowsDue(x, "99 98 97 96 95 94 93 92 91 90 89 88", "88", "99 98 97 96 95 94 93 92 91 90 89 88");
    numbersDue(x, "12 1 12 12 11 0");
    Check.due("slide", x.slide(99), 88);
    numbersDue(x, "12 2 1 13 11 11");
    Check.due("greatest", x.end(true), 99);
  }

  private static void wrongInputs() {
    Twostacks x = new Twostacks();
    x.slide(0);
    x.slide(99);
    for (int thing : new int[] {-1, 100, Integer.MIN_VALUE, Integer.MAX_VALUE}) {
      Check.fails("slide no thing", x, Check.ARGUMENT, () -> x.slide(thing));
    }
    for (int many : new int[] {0, -1, 13, Integer.MIN_VALUE, Integer.MAX_VALUE}) {
      Check.fails("width", x, Check.ARGUMENT, () -> x.width(many));
    }
    Check.due("width is left", x.width(4), 4);
    for (int what : new int[] {-1, 6, Integer.MIN_VALUE, Integer.MAX_VALUE}) {
      Check.fails("ofWindow", x, Check.ARGUMENT, () -> x.ofWindow(what));
    }
    for (int what = 0; what < 6; what++) {
      int which = what;
      Check.asksOnly("ofWindow", x, () -> x.ofWindow(which));
    }
    Check.asksOnly("end", x, () -> x.end(true));
    Check.asksOnly("end", x, () -> x.end(false));
  }
}
