/** The edges of the text of a yard ('Terms', section 1) and of promises 27 to 29. */
public final class EdgeTextTest {
  private static final Due due = new Due();

  public static void main(String[] args) {
    feedTakesTheLowestBytes();
    feedIsFull();
    feedOfEachByte();
    wipe();
    bytesBehindAnItem();
    bytesBeforeAnItem();
    bytesInAWord();
    bytesInANumber();
    blanksAlone();
    tokensAsLongAsCanBe();
    numbers();
    numbersNeverComeRound();
    teaseOneThereByThen();
    endsTooEarly();
    perhapsOnce();
    eleventh();
    fullTape();
    faultChangesNothingButTheTape();
    itemsInTheirOrder();
    knotsOfTheText();
    due.end();
  }

  /** What yard() answers to a text, on a new object. */
  private static int told(String text) {
    return Due.yard(new TalkKnots(), text);
  }

  private static void fault(String text, int place) {
    TalkKnots x = new TalkKnots();
    due.is("FAULT of '" + text + "'", Due.yard(x, text), -1 - place);
    due.is("no finding of '" + text + "'", x.status(-1), 0);
    due.is("no byte is left of '" + text + "'", x.count(1), 0);
  }

  // Promise 27: "the n lowest bytes of a number behind it, the highest of these first (n 1 to 4)"
  private static void feedTakesTheLowestBytes() {
    int vow0 = 0x766f7730;
    TalkKnots x = new TalkKnots();
    due.is("4 of 4", x.feed(vow0, 4), 4);
    due.is("'vow0'", x.yard(), 1);
    due.is("1 of 4", x.feed(0x41424376, 1), 1);
    due.is("3 of 4", x.feed(0xff6f7731, 3), 4);
    due.is("'v' and 'ow1'", x.yard(), 1);
    due.is("2 of 4", x.feed(0x8080766f, 2), 2);
    due.is("2 of 4 behind them", x.feed(0x7732, 2), 4);
    due.is("'vo' and 'w2'", x.yard(), 1);
    int[] masts = {0, 1, 2};
    for (int k = 0; k < 3; k++) {
      due.is("KIND of " + k, x.of(k, 0), 5);
      due.is("MAST of " + k, x.of(k, 1), masts[k]);
    }
    due.is("bytes of 255", x.feed(-1, 4), 4);
    due.is("begin no TOKEN", x.yard(), -1);
    due.is("the greatest number", x.feed(Integer.MAX_VALUE, 4), 4);
    due.is("its bytes", x.yard(), -1);
    due.is("the least number: bytes 128, 0, 0, 0", x.feed(Integer.MIN_VALUE, 4), 4);
    due.is("its bytes", x.yard(), -1);
  }

  // "FULL." (at most 120)
  private static void feedIsFull() {
    for (int room = 0; room <= 5; room++) {
      for (int n = 1; n <= 4; n++) {
        TalkKnots x = new TalkKnots();
        Worlds.feedTo(x, "", 120 - room);
        due.is("how many there are", x.count(1), 120 - room);
        due.is(n + " bytes where there is room for " + room, x.feed(0x20202020, n),
            n <= room ? 120 - room + n : Due.FULL);
        due.is("none of those that are too many", x.count(1), n <= room ? 120 - room + n
            : 120 - room);
        due.is("0 bytes", x.feed(32, 0), Due.BEYOND);
        due.is("5 bytes", x.feed(32, 5), Due.BEYOND);
      }
    }
    TalkKnots x = new TalkKnots();
    Worlds.feedTo(x, "", 120);
    x.wipe();
    due.is("room again when wiped", x.feed(32, 4), 4);
    Worlds.feedTo(x, "", 116);
    due.is("full again", x.feed(32, 1), Due.FULL);
    x.yard();
    due.is("room again when told", x.feed(32, 1), 1);
  }

  /** Each byte comes as it is: behind an item, one that may not be is found at its place. */
  private static void feedOfEachByte() {
    for (int b = 0; b < 256; b++) {
      for (int above : new int[] {0, 0x7fffff00, 0xffffff00}) {
        TalkKnots x = new TalkKnots();
        Worlds.feedFours(x, "wind 1 5");
        due.is("a byte more", x.feed(above | b, 1), 9);
        due.is("byte " + b + " behind 'wind 1 5'", x.yard(), behindNumber(b, 8));
      }
    }
  }

  /** What comes of a byte behind a NUMBER that may have any digit more, but needs nothing more. */
  private static int behindNumber(int b, int place) {
    boolean digit = b >= '0' && b <= '9';
    if (digit || b == ' ') {
      return 1;
    }
    // ';' may stand there, but an ITEM must follow.
    return b == ';' ? -1 - (place + 1) : -1 - place;
  }

  // Promise 28
  private static void wipe() {
    TalkKnots x = new TalkKnots();
    due.is("nothing to wipe", x.wipe(), 0);
    x.feed(32, 1);
    due.is("one byte", x.wipe(), 1);
    Worlds.feedTo(x, "", 120);
    due.is("a full tape", x.wipe(), 120);
    due.is("nothing again", x.wipe(), 0);
    due.is("and a yard of nothing", x.yard(), -1);
    due.is("no finding", x.status(-1), 0);
  }

  // "a byte that begins no TOKEN"
  private static void bytesBehindAnItem() {
    for (int b = 0; b < 256; b++) {
      char sign = (char) b;
      due.is("byte " + b + " behind 'mast 1 5 down'", told("mast 1 5 down" + sign),
          isLetter(b) ? -1 - 9 : b == ' ' ? 1 : b == ';' ? -1 - 14 : -1 - 13);
      due.is("byte " + b + " between items", told("vow 1 " + sign + " vow 2"),
          b == ';' ? 2 : b == ' ' ? -1 - 8 : -1 - 6);
      due.is("byte " + b + " for an item", told("vow 1;" + sign),
          b == ' ' ? -1 - 7 : -1 - 6);
    }
  }

  private static void bytesBeforeAnItem() {
    for (int b = 0; b < 256; b++) {
      char sign = (char) b;
      due.is("byte " + b + " before 'vow 1'", told(sign + "vow 1"), b == ' ' ? 1 : -1);
      due.is("byte " + b + " alone", told("" + sign), b == ' ' ? -2 : -1);
    }
  }

  private static void bytesInAWord() {
    for (int b = 0; b < 256; b++) {
      due.is("'v', byte " + b + " and 'w 1'", told("v" + (char) b + "w 1"), b == 'o' ? 1 : -1);
    }
  }

  private static void bytesInANumber() {
    for (int b = 0; b < 256; b++) {
      char sign = (char) b;
      // A digit makes it 1d9, which may be; anything else stands behind a NUMBER.
      int want = isDigit(b) ? 1 : b == ';' ? -1 - 9 : b == ' ' ? -1 - 9 : -1 - 8;
      due.is("byte " + b + " in a WEIGHT", told("mast 0 1" + sign + "9"), want);
      int forMast = b >= '0' && b <= '3' ? 1 : -1 - 5;
      due.is("byte " + b + " for a MAST", told("knot " + sign), b == ' ' ? -1 - 6 : forMast);
    }
  }

  private static boolean isLetter(int b) {
    return b >= 'a' && b <= 'z';
  }

  private static boolean isDigit(int b) {
    return b >= '0' && b <= '9';
  }

  // "blanks may stand between", "how many bytes there are if it ends too early"
  private static void blanksAlone() {
    for (int n = 0; n <= 120; n++) {
      TalkKnots x = new TalkKnots();
      Worlds.feedTo(x, "", n);
      due.is(n + " blanks", x.yard(), -1 - n);
      due.is("nothing is left", x.count(1), 0);
    }
    due.is("blanks everywhere", told("   knot   1   open   7   loose   ;   vow   2   "), 2);
    due.is("blanks nowhere", told("knot1open7loose;vow2;mast3 9down;wind11 9;tease0"), 5);
  }

  // "TOKENS, each as long as can be"
  private static void tokensAsLongAsCanBe() {
    fault("knotopen 1", 0);
    fault("knot 1openloose", 6);
    fault("knot 1 open7loosetease 0", 12);
    fault("mast 01", 7);
    fault("mast 0 1downvow 0", 8);
    fault("vowvow 0", 0);
    fault("wind 011", 8);
    fault("wind 0 0110", 7);
    due.is("a NUMBER and a WORD need no blank", told("knot1open2loose"), 1);
    due.is("two NUMBERS do", told("wind 1 1"), 1);
    fault("vo w 0", 0);
    fault("knot 1 op en 5", 7);
  }

  // "a NUMBER that may not be": every NUMBER of the text, from 0 to past 999.
  private static void numbers() {
    String[] heads = {"knot ", "vow 0 open ", "mast ", "mast 0 ", "wind ", "wind 0 "};
    String[] tails = {"", "", " 5", "", " 5", ""};
    int[] most = {3, 99, 3, 999, 11, 99};
    for (int i = 0; i < heads.length; i++) {
      for (int v = 0; v <= 1100; v++) {
        int want = v <= most[i] ? 1 : -1 - heads[i].length();
        due.is(heads[i] + v + tails[i], told(heads[i] + v + tails[i]), want);
      }
      due.is("with zeros ahead", told(heads[i] + "000000" + most[i] + tails[i]), 1);
      due.is("and 1 more", told(heads[i] + "000000" + (most[i] + 1) + tails[i]),
          -1 - heads[i].length());
    }
  }

  /** Rows of digits that would be small again in 8, 16, 32 or 64 bits. */
  private static void numbersNeverComeRound() {
    String[] digits = {
      "256", "65536", "65537", "4294967296", "4294967297", "8589934593", "18446744073709551616",
      "18446744073709551617", "36893488147419103233", "10000000000", "100000000000000000000",
      "340282366920938463463374607431768211457",
    };
    for (String row : digits) {
      fault("knot " + row, 5);
      fault("vow 0 open " + row + " ", 11);
      fault("wind " + row + " 1", 5);
      fault("knot 0;tease " + row, 13);
    }
    fault("mast 0 4294967396", 7);
    fault("mast 0 1000", 7);
    fault("mast 0 9999", 7);
    StringBuilder longest = new StringBuilder("knot ");
    while (longest.length() < 119) {
      longest.append('0');
    }
    due.is("114 zeros and a 3", told(longest + "3"), 1);
    fault(longest + "4", 5);
    due.is("115 zeros", told(longest + "0"), 1);
  }

  // "tease and a NUMBER (one there by then)"
  private static void teaseOneThereByThen() {
    fault("tease 0", 6);
    fault("tease 0;knot 0", 6);
    fault("knot 0;tease 1;knot 0", 13);
    due.is("one told before it", told("knot 0;tease 0"), 2);
    due.is("two told before it", told("knot 0;knot 0;tease 1"), 3);
    TalkKnots x = new TalkKnots();
    for (int k = 0; k < 10; k++) {
      due.is("one that isn't there yet", Due.yard(x, "tease " + k), -1 - 6);
      x.knot(0, 0);
      due.is("one that is there", Due.yard(x, "tease " + k), 1);
      due.is("teased", x.of(k, 2), 65);
    }
    due.is("an 11th", Due.yard(x, "tease 10"), -1 - 6);
    due.is("the tenth", Due.yard(x, "tease 9"), 1);
    due.is("OPEN then", x.of(9, 2), 80);
    due.is("held to 99", Due.yard(x, "tease 9;tease 9;tease 9"), 3);
    due.is("99", x.of(9, 2), 99);
  }

  // "or how many bytes there are if it ends too early"
  private static void endsTooEarly() {
    String text = "splice 3 open 98 loose";
    // After so many bytes of it: the item is whole, the WORD is none, or more must come.
    int[] want = {
      -1, -1, -1, -1, -1, -1, -7, -8, 1, 1, -10, -10, -10, -14, -15, 1, 1, 1, -18, -18, -18, -18, 1,
    };
    for (int n = 0; n < want.length; n++) {
      due.is("the first " + n + " bytes of '" + text + "'", told(text.substring(0, n)), want[n]);
    }
    text = "mast 3 999 down;wind 11 9";
    int[] more = {
      -1, -1, -1, -1, -5, -6, -7, -8, 1, 1, 1, 1, -12, -12, -12, 1, -17, -17, -17, -17, -21, -22,
      -23, -24, -25, 2,
    };
    for (int n = 0; n < more.length; n++) {
      due.is("the first " + n + " bytes of '" + text + "'", told(text.substring(0, n)), more[n]);
    }
    fault("tease", 5);
    fault("tease  ", 7);
    fault("vow 0;tease", 11);
    fault("vow 0;", 6);
    fault("vow 0;   ", 9);
  }

  // "perhaps open and a NUMBER, perhaps loose", "perhaps down"
  private static void perhapsOnce() {
    fault("knot 0 open 5 open 5", 14);
    fault("knot 0 loose loose", 13);
    fault("knot 0 loose open 5", 13);
    fault("knot 0 down", 7);
    fault("knot 0 open 5 down", 14);
    fault("mast 0 5 down down", 14);
    fault("mast 0 5 loose", 9);
    fault("mast 0 5 open 5", 9);
    fault("wind 0 5 down", 9);
    fault("wind 0 5 5", 9);
    fault("vow 0;tease 0 open", 14);
    fault("vow 0;tease 0 0", 14);
    fault("knot 0 0", 7);
    fault("knot open 5", 5);
    fault("knot 0 open", 11);
    fault("knot 0 5 open", 7);
    fault(";vow 0", 0);
    fault("vow 0;;vow 0", 6);
    fault("vow 0 vow 0", 6);
  }

  // "the name of a KIND for an 11th: its own"
  private static void eleventh() {
    String[] names = {"knot", "splice", "hitch", "fool", "hawser", "vow"};
    for (String name : names) {
      TalkKnots x = new TalkKnots();
      for (int k = 0; k < 9; k++) {
        x.knot(0, 0);
      }
      due.is("an 11th of the text's own", Due.yard(x, "vow 0 ; " + name + " 1"), -1 - 8);
      due.is("an 11th of which no more is told", Due.yard(x, "vow 0 ; " + name), -1 - 8);
      due.is("an 11th of which more is wrong", Due.yard(x, "vow 0 ; " + name + " 9"), -1 - 8);
      due.is("nothing came", x.count(0), 9);
      due.is("a tenth", Due.yard(x, name + " 1"), 1);
      due.is("an 11th", Due.yard(x, "  " + name + " 1"), -1 - 2);
      due.is("not the name of a KIND", Due.yard(x, "  " + name + "s 1"), -1 - 2);
      due.is("what is no KNOT may still come", Due.yard(x, "wind 0 1;mast 0 1;tease 9"), 3);
      due.is("ten", x.count(0), 10);
      due.is("no finding", x.status(-1), 0);
    }
    TalkKnots x = new TalkKnots();
    due.is("ten in a text", Due.yard(x, "vow0;vow1;vow2;vow3;vow0;vow1;vow2;vow3;vow0;vow1"), 10);
    x = new TalkKnots();
    due.is("eleven", Due.yard(x, "vow0;vow1;vow2;vow3;vow0;vow1;vow2;vow3;vow0;vow1;vow2"),
        -1 - 50);
    due.is("none of them came", x.count(0), 0);
  }

  // "THE TAPE (bytes, at most 120)": a text that fills it, and as many ITEMS as can be.
  private static void fullTape() {
    StringBuilder text = new StringBuilder();
    for (int k = 0; k < 10; k++) {
      text.append("vow").append(k % 4).append(';');
    }
    for (int k = 0; k < 10; k++) {
      text.append("tease").append(k).append(k < 9 ? ";" : " ");
    }
    TalkKnots x = new TalkKnots();
    due.is("as long as the tape", text.length(), 120);
    Worlds.feedFours(x, text.toString());
    due.is("all of it is there", x.count(1), 120);
    due.is("20 ITEMS", x.yard(), 20);
    due.is("600 OPEN", x.now(5), 600);
    text.setCharAt(119, ';');
    x = new TalkKnots();
    Worlds.feedFours(x, text.toString());
    due.is("an ITEM must follow", x.yard(), -1 - 120);
    text.setCharAt(119, '$');
    Worlds.feedFours(x, text.toString());
    due.is("the last byte is the FAULT", x.yard(), -1 - 119);
    due.is("nothing came", x.count(0), 0);
  }

  // Promise 29: "With a FAULT: .. (nothing changes but that THE TAPE is empty; no finding)"
  private static void faultChangesNothingButTheTape() {
    String[] texts = {
      "", " ", "mast 0 5 down;$", "wind 3 77;wind 3 78;wind", "vow 3;vow 3;rope", "tease 0;tease 9",
      "mast 1 0;mast 1 9 down;tease 2;vow 1 open 100", "vow 3 open 1 loose;tease 3;;",
    };
    for (String text : texts) {
      TalkKnots x = Worlds.make("some");
      TalkKnots twin = Worlds.make("some");
      twin.wipe();
      due.holds("a FAULT of '" + text + "'", Due.yard(x, text) < 0);
      due.is("no finding of '" + text + "'", x.status(-1), twin.status(-1));
      String other = Seen.difference(Seen.all(x), Seen.all(twin));
      due.holds("nothing changes by '" + text + "', but " + other, other == null);
    }
  }

  // "whose ITEMS come to what there is"
  private static void itemsInTheirOrder() {
    TalkKnots x = new TalkKnots();
    due.is("the last of several stays", Due.yard(x, "wind 0 5;wind 0 6;mast 0 7 down;mast 0 8"), 4);
    due.is("WIND", x.now(2), 6);
    due.is("WEIGHT", x.mastOf(0, 0), 8);
    due.is("UP, as down isn't told", x.mastOf(0, 1), 1);
    due.is("down", Due.yard(x, "mast 0 8 down"), 1);
    due.is("fallen", x.mastOf(0, 1), 0);
    due.is("other MASTS as they were", x.now(3), 14);
    due.is("the greatest numbers", Due.yard(x, "mast 3 999 down;wind 11 99;vow 3 open 99"), 3);
    due.is("WEIGHT 999", x.mastOf(3, 0), 999);
    due.is("WIND 99", x.wind(11, 0), 99);
    due.is("OPEN 99", x.of(0, 2), 99);
    due.is("the least", Due.yard(x, "mast 0 0;wind 0 0;vow 0 open 0"), 3);
    due.is("WEIGHT 0", x.mastOf(0, 0), 0);
    due.is("WIND 0", x.now(2), 0);
    due.is("OPEN 0", x.of(1, 2), 0);
  }

  private static void knotsOfTheText() {
    TalkKnots x = new TalkKnots();
    x.image();
    x.knot(3, 3);
    x.set(0, 2, 7);
    x.set(0, 4, 77);
    x.cast(0);
    x.undo();
    due.is("a KNOT told where another was", Due.yard(x, "knot 1"), 1);
    int[] want = {0, 1, 50, 1, 0};
    for (int what = 0; what < 5; what++) {
      due.is("as at first: of(0, " + what + ")", x.of(0, what), want[what]);
    }
    due.is("a loose one", Due.yard(x, "hawser 2 loose"), 1);
    due.is("isn't FAST", x.of(1, 3), 0);
    due.is("OPEN 50", x.of(1, 2), 50);
    due.is("one OPEN 9 and loose", Due.yard(x, "fool 2 open 9 loose"), 1);
    due.is("isn't FAST, too", x.of(2, 3), 0);
    due.is("OPEN 9", x.of(2, 2), 9);
  }
}
