/** Promises 27 to 29: the tape, and the text of a yard. */
public final class TextTest {
  private static final Due due = new Due();

  public static void main(String[] args) {
    feed();
    wipe();
    items();
    itemsComeToWhatThereIs();
    tokens();
    faults();
    endsTooEarly();
    eleventh();
    faultChangesNothing();
    due.end();
  }

  private static void feed() {
    TalkKnots x = new TalkKnots();
    due.is("feed of 0 bytes", x.feed(1, 0), Due.BEYOND);
    due.is("feed of 5 bytes", x.feed(1, 5), Due.BEYOND);
    due.is("feed of -1 bytes", x.feed(1, -1), Due.BEYOND);
    // "knot" is 6b 6e 6f 74, " 1" is 20 31; what stands above the lowest bytes is left out.
    due.is("feed of 4", x.feed(0x6b6e6f74, 4), 4);
    due.is("feed of 2", x.feed(0x7f7f2031, 2), 6);
    due.is("feed of 3", x.feed(0xff20203b, 3), 9);
    due.is("feed of 4 again", x.feed(0x666f6f6c, 4), 13);
    due.is("feed of 1", x.feed(0x12345632, 1), 14);
    due.is("count(1)", x.count(1), 14);
    due.is("yard()", x.yard(), 2);
    due.is("kind of the first", x.of(0, 0), 0);
    due.is("mast of the first", x.of(0, 1), 1);
    due.is("kind of the second", x.of(1, 0), 3);
    due.is("mast of the second", x.of(1, 1), 2);
    due.is("the tape is empty", x.count(1), 0);
    for (int i = 1; i <= 29; i++) {
      due.is("feed " + i, x.feed(0x20202020, 4), 4 * i);
    }
    due.is("feed of 1 to 117", x.feed(32, 1), 117);
    due.is("feed of 4 above 120", x.feed(32, 4), Due.FULL);
    due.is("feed of 5 above 120", x.feed(32, 5), Due.BEYOND);
    due.is("feed of 3 to 120", x.feed(0x202020, 3), 120);
    due.is("feed above 120", x.feed(32, 1), Due.FULL);
    due.is("count(1) of a full tape", x.count(1), 120);
    due.is("120 blanks", x.yard(), -121);
    due.is("and the tape is empty", x.count(1), 0);
  }

  private static void wipe() {
    TalkKnots x = new TalkKnots();
    Due.feed(x, "knot 0");
    due.is("wipe()", x.wipe(), 6);
    due.is("wipe() again", x.wipe(), 0);
    due.is("yard() of nothing", x.yard(), -1);
    due.is("no finding", x.status(-1), 0);
  }

  private static void items() {
    TalkKnots x = new TalkKnots();
    due.is("every kind of item", Due.yard(x, "knot 0;splice 1 open 99;hitch 2 loose;"
        + "fool 3 open 0 loose;hawser 0;vow 1;mast 2 999 down;mast 3 0;wind 11 99;tease 4"), 10);
    due.is("one that is loose is teased", Due.yard(x, "tease 3"), 1);
    int[][] want = {
      {0, 0, 50, 1}, {1, 1, 99, 1}, {2, 2, 50, 0}, {3, 3, 0, 0}, {4, 0, 80, 1}, {5, 1, 50, 1},
    };
    for (int k = 0; k < want.length; k++) {
      for (int what = 0; what < 4; what++) {
        due.is("told: of(" + k + ", " + what + ")", x.of(k, what), want[k][what]);
      }
      due.is("told: age of " + k, x.of(k, 4), 0);
    }
    due.is("told: weight of 2", x.mastOf(2, 0), 999);
    due.is("told: weight of 3", x.mastOf(3, 0), 0);
    due.is("told: masts that are up", x.now(3), 11);
    due.is("told: wind of 11", x.wind(11, 0), 99);
    due.is("mast without down is up", Due.yard(x, "mast 2 5"), 1);
    due.is("up again", x.now(3), 15);
  }

  private static void itemsComeToWhatThereIs() {
    TalkKnots x = Due.told("knot 0");
    x.set(0, 4, 77);
    due.is("one more", Due.yard(x, "vow 2 open 3; tease 0; tease 1"), 3);
    due.is("count(0)", x.count(0), 2);
    due.is("the first was teased", x.of(0, 2), 65);
    due.is("the first is as old", x.of(0, 4), 77);
    due.is("the second was teased", x.of(1, 2), 13);
  }

  private static void tokens() {
    String[] good = {
      "knot0", "knot0open5loose", "  knot  0  ", "knot 000", "knot 0;knot 1", "knot 0 ; knot 1",
      "knot 0open 0099", "mast3 999down", "wind 0000000000000000000011 7",
    };
    int[] items = {1, 1, 1, 1, 2, 2, 1, 1, 1};
    for (int i = 0; i < good.length; i++) {
      due.is("'" + good[i] + "'", Due.yard(new TalkKnots(), good[i]), items[i]);
    }
  }

  private static void faults() {
    Object[][] rows = {
      // A byte that begins no TOKEN.
      {"$", 0}, {"Knot 0", 0}, {"knot\t0", 4}, {"knot 0,", 6}, {"knot 0 \u00e9", 7},
      {"knot 0\n", 6},
      {"knot 0\u0000", 6}, {"knot 0;\u0000", 7}, {"knot -1", 5}, {"knot `", 5}, {"knot {", 5},
      {"knot /", 5}, {"knot :", 5},
      // Another WORD, or a TOKEN of another sort.
      {"rope 0", 0}, {"knots 0", 0}, {"knotz 0", 0}, {"knota 0", 0},
      {"cast 0 5", 0}, {"bind 0 5", 0}, {"row 0", 0}, {"kno 0", 0}, {"open 3", 0},
      {"loose", 0}, {"down", 0},
      {"5", 0}, {";", 0}, {"  ;", 2}, {"knot knot", 5}, {"knot ;", 5}, {"knot 0 open loose", 12},
      {"knot 0 loose open 3", 13}, {"knot 0 loose loose", 13}, {"knot 0 down", 7},
      {"knot 0 open 3 open 3", 14}, {"knot 0 3", 7}, {"knot 0 knot 1", 7}, {"knot 0;;", 7},
      {"mast 0 100 loose", 11}, {"mast 0 100 down down", 16}, {"mast 0 down", 7}, {"wind 0 5 5", 9},
      {"knot 0;tease tease", 13}, {"knot 0;tease 0 loose", 15}, {"mast;", 4}, {"openloose 0", 0},
      // A NUMBER that may not be.
      {"knot 4", 5}, {"knot 0 open 100", 12}, {"mast 4 0", 5}, {"mast 0 1000", 7}, {"wind 12 0", 5},
      {"wind 0 100", 7}, {"tease 0", 6}, {"knot 0;tease 1", 13}, {"tease 0;knot 0", 6},
      {"knot 4294967296", 5}, {"mast 0 18446744073709551617", 7},
      {"knot 99999999999999999999 ;", 5},
      // The first of several.
      {"knot 9 $", 5}, {"knot 0 $ $", 7}, {"rope 9", 0},
    };
    for (Object[] row : rows) {
      TalkKnots x = new TalkKnots();
      due.is("'" + row[0] + "'", Due.yard(x, (String) row[0]), -1 - (Integer) row[1]);
      due.is("no finding of '" + row[0] + "'", x.status(-1), 0);
      due.is("no knot of '" + row[0] + "'", x.count(0), 0);
      due.is("no tape of '" + row[0] + "'", x.count(1), 0);
    }
  }

  private static void endsTooEarly() {
    String[] texts = {
      "", " ", "knot", "knot ", "knot 0;", "knot 0; ", "knot 0 open", "knot 0 open  ", "mast",
      "mast 3", "mast 3  ", "wind", "wind 11", "tease", "knot 1;tease ", "vow",
    };
    for (String text : texts) {
      due.is("'" + text + "'", Due.yard(new TalkKnots(), text), -1 - text.length());
    }
  }

  private static void eleventh() {
    TalkKnots x = Due.told("vow0;vow0;vow0;vow0;vow0;vow0;vow0;vow0");
    due.is("an 11th in the text", Due.yard(x, "knot 1; fool 2;hitch 3"), -1 - 15);
    due.is("count(0) is as it was", x.count(0), 8);
    due.is("an 11th whose own number is wrong, too", Due.yard(x, "vow 0;vow 0;vow 9"), -1 - 12);
    due.is("ten", Due.yard(x, "knot 1; fool 2; tease 9"), 3);
    due.is("count(0) of ten", x.count(0), 10);
    due.is("an 11th of those there", Due.yard(x, " knot 0"), -2);
    due.is("other items go on", Due.yard(x, "wind 0 5;tease 9"), 2);
    due.is("no finding", x.status(-1), 0);
  }

  private static void faultChangesNothing() {
    TalkKnots x = Due.told("knot 0");
    due.is("a fault at the end", Due.yard(x, "mast 0 5 down;wind 0 77;tease 0;vow 3;rope"), -39);
    due.is("weight", x.mastOf(0, 0), 100);
    due.is("masts", x.now(3), 15);
    due.is("wind", x.now(2), 0);
    due.is("open", x.of(0, 2), 50);
    due.is("knots", x.count(0), 1);
  }
}
