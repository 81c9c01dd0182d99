/** Promises 1 to 6: a new object, and the calls of the yard. */
public final class YardTest {
  private static final Due due = new Due();

  public static void main(String[] args) {
    newObject();
    wind();
    weight();
    raise();
    mastOf();
    now();
    fullYard();
    fallenMast();
    due.end();
  }

  private static void newObject() {
    TalkKnots x = new TalkKnots();
    due.is("new: status(-1)", x.status(-1), 0);
    due.is("new: count(0)", x.count(0), 0);
    due.is("new: count(1)", x.count(1), 0);
    due.is("new: count(2)", x.count(2), 400);
    due.is("new: count(3)", x.count(3), 0);
    int[] want = {0, 0, 0, 15, 0, 0};
    for (int what = 0; what < 6; what++) {
      due.is("new: now(" + what + ")", x.now(what), want[what]);
    }
    due.is("new: tear()", x.tear(), 0);
    due.is("new: undo()", x.undo(), Due.NONE);
    due.is("new: wipe()", x.wipe(), 0);
    for (int s = 0; s < 4; s++) {
      due.is("new: write to sheet " + s, x.write(s, 0, 1), Due.MISSING);
    }
    int[] winds = {0, 7, 14, 21, 28, 5, 12, 19, 26, 3, 10, 17};
    for (int place = 0; place < 12; place++) {
      due.is("new: wind of " + place, x.wind(place, 0), winds[place]);
    }
  }

  private static void wind() {
    TalkKnots x = new TalkKnots();
    due.is("wind(0, 99)", x.wind(0, 99), 0);
    due.is("wind(0, 40)", x.wind(0, 40), 99);
    due.is("now(2)", x.now(2), 40);
    due.is("wind(11, 0)", x.wind(11, 0), 17);
    due.is("wind(-1, 0)", x.wind(-1, 0), Due.BEYOND);
    due.is("wind(12, 0)", x.wind(12, 0), Due.BEYOND);
    due.is("wind(0, -1)", x.wind(0, -1), Due.BEYOND);
    due.is("wind(0, 100)", x.wind(0, 100), Due.BEYOND);
    due.is("wind of extremes", x.wind(Integer.MIN_VALUE, Integer.MAX_VALUE), Due.BEYOND);
    due.is("wind after findings", x.wind(0, 1), 40);
    due.is("status(0)", x.status(0), 5);
  }

  private static void weight() {
    TalkKnots x = new TalkKnots();
    due.is("weight(3, 999)", x.weight(3, 999), 100);
    due.is("weight(3, 0)", x.weight(3, 0), 999);
    due.is("weight(3, -1)", x.weight(3, -1), Due.BEYOND);
    due.is("weight(3, 1000)", x.weight(3, 1000), Due.BEYOND);
    due.is("weight(4, 5)", x.weight(4, 5), Due.BEYOND);
    due.is("weight(-1, 5)", x.weight(-1, 5), Due.BEYOND);
    due.is("mastOf(3, 0)", x.mastOf(3, 0), 0);
    due.is("count(2)", x.count(2), 300);
  }

  private static void raise() {
    TalkKnots x = new TalkKnots();
    due.is("raise of one that is up", x.raise(2), 0);
    due.is("hours(1)", x.hours(1), 0);
    due.is("raise(2)", x.raise(2), 1);
    due.is("now(3)", x.now(3), 4);
    due.is("raise(2) again", x.raise(2), 0);
    due.is("raise(0)", x.raise(0), 1);
    due.is("now(3) with two", x.now(3), 5);
    due.is("raise(-1)", x.raise(-1), Due.BEYOND);
    due.is("raise(4)", x.raise(4), Due.BEYOND);
    due.is("raise(32)", x.raise(32), Due.BEYOND);
  }

  private static void mastOf() {
    // MAST 1: WEIGHT 200; in a WIND of 50 the STRAIN of two is (200 + 150) / 2.
    TalkKnots x = Due.told("wind 0 50; mast 1 200; knot 1 open 40; knot 0; hitch 1 open 20;"
        + " fool 1 loose; mast 3 7 down");
    int[] want = {200, 1, 13, 5, 175, 80};
    for (int what = 0; what < 6; what++) {
      due.is("mastOf(1, " + what + ")", x.mastOf(1, what), want[what]);
    }
    int[] down = {7, 0, 0, 0, 0, 0};
    for (int what = 0; what < 6; what++) {
      due.is("mastOf(3, " + what + ")", x.mastOf(3, what), down[what]);
    }
    x.tie(3);
    due.is("a cut quotient", x.mastOf(1, 4), 116);
    due.is("what three hold", x.mastOf(1, 5), 80 + 0 + 49);
    due.is("mastOf(1, 6)", x.mastOf(1, 6), Due.BEYOND);
    due.is("mastOf(1, -1)", x.mastOf(1, -1), Due.BEYOND);
    due.is("mastOf(4, 0)", x.mastOf(4, 0), Due.BEYOND);
    due.is("mastOf(-1, 0)", x.mastOf(-1, 0), Due.BEYOND);
  }

  private static void now() {
    TalkKnots x = Due.told("vow 0 open 99; knot 2 open 1 loose; splice 0 open 90");
    due.is("now(4)", x.now(4), 5);
    due.is("now(5)", x.now(5), 190);
    due.is("hours(13)", x.hours(13), 1);
    due.is("now(0)", x.now(0), 13);
    due.is("now(1)", x.now(1), 1);
    due.is("now(2)", x.now(2), 7);
    due.is("now(3)", x.now(3), 1);
    due.is("now(-1)", x.now(-1), Due.BEYOND);
    due.is("now(6)", x.now(6), Due.BEYOND);
  }

  private static void fullYard() {
    TalkKnots x = new TalkKnots();
    for (int k = 0; k < 10; k++) {
      x.knot(0, 2);
    }
    int[] want = {100, 1, 1023, 1023, 10, 1000};
    for (int what = 0; what < 6; what++) {
      due.is("ten: mastOf(2, " + what + ")", x.mastOf(2, what), want[what]);
    }
    due.is("ten: now(4)", x.now(4), 1023);
    due.is("ten: now(5)", x.now(5), 500);
    due.is("ten: hours(2)", x.hours(2), 4);
    due.is("ten: count(3)", x.count(3), 20);
  }

  /** A MAST that fell has its WEIGHT and its KNOTS, with what they HOLD and their STRAIN, as ever. */
  private static void fallenMast() {
    TalkKnots x = Due.told("wind 0 10; mast 1 200 down; splice 1 open 60; knot 1 open 7 loose;"
        + " hawser 1 open 20");
    int[] want = {200, 0, 7, 5, 115, 230};
    for (int what = 0; what < 6; what++) {
      due.is("fallen: mastOf(1, " + what + ")", x.mastOf(1, what), want[what]);
    }
    due.is("fallen: now(3)", x.now(3), 13);
    due.is("fallen: now(4)", x.now(4), 5);
    due.is("fallen: now(5)", x.now(5), 87);
    due.is("raise(1)", x.raise(1), 1);
    want[1] = 1;
    for (int what = 0; what < 6; what++) {
      due.is("raised: mastOf(1, " + what + ")", x.mastOf(1, what), want[what]);
    }
  }
}
