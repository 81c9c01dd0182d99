/** Counts the answers that are not as due, and ends a test by them. */
final class Due {
  static final int BEYOND = -1000000001;
  static final int FULL = -1000000002;
  static final int KIND = -1000000003;
  static final int NONE = -1000000004;
  static final int STATE = -1000000005;
  static final int MISSING = -1000000006;
  static final int SIZE = -1000000007;

  private int asked = 0;
  private int wrong = 0;

  void is(String call, long got, long want) {
    asked++;
    if (got != want) {
      wrong++;
      System.out.println(call + " answered " + got + ", due is " + want);
    }
  }

  void holds(String what, boolean so) {
    asked++;
    if (!so) {
      wrong++;
      System.out.println("not so: " + what);
    }
  }

  void end() {
    System.out.println(asked + " asked, " + wrong + " not as due");
    if (wrong != 0 || asked == 0) {
      System.exit(1);
    }
  }

  /** Feeds a text, a byte at a time. */
  static void feed(TalkKnots x, String text) {
    for (int i = 0; i < text.length(); i++) {
      x.feed(text.charAt(i), 1);
    }
  }

  /** What yard() answers to a text on an empty tape. */
  static int yard(TalkKnots x, String text) {
    if (text.length() > 120) {
      throw new IllegalStateException("the test's own text is too long: " + text);
    }
    x.wipe();
    feed(x, text);
    return x.yard();
  }

  /** A new object with the yard of a text, which is told item by item and so may be long. */
  static TalkKnots told(String text) {
    TalkKnots x = new TalkKnots();
    for (String item : text.split(";")) {
      if (yard(x, item) != 1) {
        throw new IllegalStateException("the test's own text has a fault: " + item);
      }
    }
    return x;
  }
}
