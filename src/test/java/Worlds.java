/** Objects in which calls are refused for one reason or another, always made alike. */
final class Worlds {
  private Worlds() {
  }

  static TalkKnots make(String name) {
    switch (name) {
      case "new": return new TalkKnots();
      case "some": return some();
      case "full": return full();
      case "late": return late();
      default: throw new IllegalArgumentException(name);
    }
  }

  /**
   * KNOTS: 0 a KNOT of MAST 0, 1 a SPLICE of MAST 1 that never gives way, 2 a FOOL of MAST 0 that
   * is loose. MASTS 0 and 1 are UP. 118 bytes are on THE TAPE, no image is kept. Sheets: 0 of 6
   * numbers of 8 bits, 1 of 5 of 16 bits, 2 of 4 of 8 bits, 3 is MISSING.
   */
  private static TalkKnots some() {
    TalkKnots x = new TalkKnots();
    x.knot(0, 0);
    x.knot(1, 1);
    x.set(1, 2, 95);
    x.knot(3, 0);
    x.cast(2);
    x.hours(1);
    sheets(x);
    feedTo(x, "vow 3 open 9;tease 0;wind 2 33", 118);
    return x;
  }

  /** Ten KNOTS, of which 4 and 9 are loose; 120 bytes; an image is kept; sheets as in some. */
  private static TalkKnots full() {
    TalkKnots x = new TalkKnots();
    for (int k = 0; k < 10; k++) {
      x.knot(k % 6, k % 4);
      x.set(k, 2, 9 * k + 3);
    }
    x.cast(9);
    x.image();
    x.hours(3);
    x.tie(0);
    x.cast(4);
    x.raise(1);
    x.weight(2, 321);
    x.wind(7, 70);
    sheets(x);
    feedTo(x, "mast 3 7 down;tease 4;wind 11 3;tease 9", 120);
    return x;
  }

  /** HOUR 99999. (Its calls are more than the document speaks of; no fewer come so far.) */
  private static TalkKnots late() {
    TalkKnots x = new TalkKnots();
    x.knot(1, 0);
    x.set(0, 2, 95);
    for (int i = 0; i < 999; i++) {
      x.hours(100);
    }
    x.hours(99);
    return x;
  }

  private static void sheets(TalkKnots x) {
    x.sheet(0, 8, 6);
    x.sheet(1, 16, 5);
    x.sheet(2, 8, 4);
    x.write(0, 0, 11);
    x.write(0, 5, -7);
    x.write(1, 2, 1234);
    x.write(2, 3, 99);
  }

  /** Feeds a text and blanks behind it, up to so many bytes, four at a time. */
  static void feedTo(TalkKnots x, String text, int bytes) {
    StringBuilder padded = new StringBuilder(text);
    while (padded.length() < bytes) {
      padded.append(' ');
    }
    feedFours(x, padded.toString());
  }

  static void feedFours(TalkKnots x, String text) {
    for (int i = 0; i < text.length(); i += 4) {
      int n = Math.min(4, text.length() - i);
      int bytes = 0;
      for (int j = 0; j < n; j++) {
        bytes = bytes << 8 | text.charAt(i + j) & 255;
      }
      x.feed(bytes, n);
    }
  }
}
