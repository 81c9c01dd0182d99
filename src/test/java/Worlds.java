/** Objects in which calls are refused for one reason or another, always made alike. */
final class Worlds {
  private Worlds() {
  }

  static TalkKnots make(String name) {
    switch (name) {
      case "new": return new TalkKnots();
      case "some": return some();
      case "full": return full();
      case "late": return late();
      case "odd": return odd();
      case "told": return told();
      default: throw new IllegalArgumentException(name);
    }
  }

  /**
   * KNOTS: 0 a KNOT of MAST 0, 1 a SPLICE of MAST 1 that never gives way, 2 a FOOL of MAST 0 that
   * is loose. MASTS 0 and 1 are UP. 118 bytes are on THE TAPE, no image is kept. Sheets: 0 of 6
   * numbers of 8 bits, 1 of 5 of 16 bits, 2 of 4 of 8 bits, 3 is MISSING.
   */
  private static TalkKnots some() {
    TalkKnots x = new TalkKnots();
    x.knot(0, 0);
    x.knot(1, 1);
    x.set(1, 2, 95);
    x.knot(3, 0);
    x.cast(2);
    x.hours(1);
    sheets(x);
    feedTo(x, "vow 3 open 9;tease 0;wind 2 33", 118);
    return x;
  }

  /** Ten KNOTS, of which 4 and 9 are loose; 120 bytes; an image is kept; sheets as in some. */
  private static TalkKnots full() {
    TalkKnots x = new TalkKnots();
    for (int k = 0; k < 10; k++) {
      x.knot(k % 6, k % 4);
      x.set(k, 2, 9 * k + 3);
    }
    x.cast(9);
    x.image();
    x.hours(3);
    x.tie(0);
    x.cast(4);
    x.raise(1);
    x.weight(2, 321);
    x.wind(7, 70);
    sheets(x);
    feedTo(x, "mast 3 7 down;tease 4;wind 11 3;tease 9", 120);
    return x;
  }

  /**
   * Nothing is as at first: HOUR 30 (place 6), other winds and weights, MASTS 1 and 2 UP, six
   * KNOTS, all old, 0, 1 and 5 loose. An image of two KNOTS is kept. THE TAPE is "tease 1".
   * Sheets: 0 of 13 numbers of 64 bits, 1 of 3 of 8 bits, 2 of 13 of 64 bits, 3 of none of 16 bits.
   */
  private static TalkKnots odd() {
    TalkKnots x = new TalkKnots();
    x.knot(1, 2);
    x.knot(3, 3);
    x.image();
    x.hours(30);
    x.turn(0, 5);
    x.turn(1, 2);
    for (int k = 2; k < 6; k++) {
      x.knot(k % 6, k % 4);
    }
    for (int k = 0; k < 6; k++) {
      x.set(k, 1, k % 4);
      x.set(k, 2, 91 - 11 * k);
      x.set(k, 4, 20 + k);
    }
    x.cast(5);
    x.raise(1);
    x.raise(2);
    for (int place = 0; place < 12; place++) {
      x.wind(place, (17 * place + 5) % 50);
    }
    for (int mast = 0; mast < 4; mast++) {
      x.weight(mast, 30 + 40 * mast);
    }
    sheetsOf13(x);
    x.sheet(3, 16, 0);
    feedFours(x, "tease 1");
    return x;
  }

  /**
   * By the text alone: HOUR 9, MASTS 2 and 3 UP, five KNOTS, of which 0 and 2 were loose from the
   * first. An image of the same with other winds is kept. THE TAPE and sheets as in odd, but that
   * sheet 3 is MISSING.
   */
  private static TalkKnots told() {
    TalkKnots x = Due.told("mast 0 44 down; mast 1 55 down; mast 2 66; mast 3 77; wind 4 31;"
        + "vow 0 open 77 loose; hitch 1 open 99; fool 2 open 9 loose; splice 3 open 88;"
        + "hawser 2 open 58");
    x.hours(9);
    x.image();
    sheetsOf13(x);
    Due.yard(x, "wind 0 9;wind 3 12;wind 7 1;wind 11 14");
    feedFours(x, "tease 1");
    return x;
  }

  /** HOUR 99999. (Its calls are more than the document speaks of; no fewer come so far.) */
  private static TalkKnots late() {
    TalkKnots x = new TalkKnots();
    x.knot(1, 0);
    x.set(0, 2, 95);
    for (int i = 0; i < 999; i++) {
      x.hours(100);
    }
    x.hours(99);
    return x;
  }

  private static void sheets(TalkKnots x) {
    x.sheet(0, 8, 6);
    x.sheet(1, 16, 5);
    x.sheet(2, 8, 4);
    x.write(0, 0, 11);
    x.write(0, 5, -7);
    x.write(1, 2, 1234);
    x.write(2, 3, 99);
  }

  private static void sheetsOf13(TalkKnots x) {
    x.sheet(0, 64, 13);
    x.sheet(1, 8, 3);
    x.sheet(2, 64, 13);
    for (int i = 0; i < 13; i++) {
      x.write(0, i, 90 - 6 * i);
      x.write(2, i, 7 - i);
    }
    x.write(1, 1, -3);
  }

  /** Feeds a text and blanks behind it, up to so many bytes, four at a time. */
  static void feedTo(TalkKnots x, String text, int bytes) {
    StringBuilder padded = new StringBuilder(text);
    while (padded.length() < bytes) {
      padded.append(' ');
    }
    feedFours(x, padded.toString());
  }

  static void feedFours(TalkKnots x, String text) {
    for (int i = 0; i < text.length(); i += 4) {
      int n = Math.min(4, text.length() - i);
      int bytes = 0;
      for (int j = 0; j < n; j++) {
        bytes = bytes << 8 | text.charAt(i + j) & 255;
      }
      x.feed(bytes, n);
    }
  }
}
