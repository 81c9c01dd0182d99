/** Promises 36 to 40: images, counts and the status. */
public final class ImageTest {
  private static final Due due = new Due();

  public static void main(String[] args) {
    imageAndUndo();
    latestStays();
    tear();
    count();
    status();
    due.end();
  }

  private static void change(TalkKnots x) {
    x.wind(1, 88);
    x.weight(2, 777);
    x.set(0, 1, 3);
    x.turn(0, 4);
    x.tease(0);
    x.cast(1);
    x.knot(5, 2);
    x.hours(7);
    x.set(0, 4, 500);
  }

  private static void imageAndUndo() {
    TalkKnots x = Due.told("knot 0 open 70; splice 1 open 80; mast 3 5 down");
    x.sheet(0, 8, 1);
    x.hours(1);
    Due.feed(x, "knot");
    due.is("image()", x.image(), 1);
    change(x);
    x.write(0, 0, 9);
    Due.feed(x, " 1");
    due.is("undo()", x.undo(), 2);
    due.is("hour", x.now(0), 1);
    due.is("masts", x.now(3), 3);
    due.is("knots that are fast", x.now(4), 3);
    due.is("wind", x.wind(1, 7), 7);
    due.is("weight", x.mastOf(2, 0), 100);
    int[] want = {0, 0, 68, 1, 1};
    for (int what = 0; what < 5; what++) {
      due.is("of(0, " + what + ")", x.of(0, what), want[what]);
    }
    due.is("no third", x.of(2, 0), Due.BEYOND);
    due.is("the tape is as it was fed", x.count(1), 6);
    due.is("sheets are as written", x.write(0, 0, 0), 9);
    due.is("the tape is told", x.yard(), 1);
    due.is("a third", x.of(2, 2), 50);
  }

  private static void latestStays() {
    TalkKnots x = Due.told("knot 0");
    x.image();
    x.set(0, 2, 60);
    x.image();
    x.set(0, 2, 70);
    due.is("undo()", x.undo(), 1);
    due.is("the latest", x.of(0, 2), 60);
    x.set(0, 2, 80);
    x.knot(1, 1);
    due.is("undo() again", x.undo(), 1);
    due.is("the latest again", x.of(0, 2), 60);
    x.tease(0);
    due.is("what is kept doesn't follow", x.undo(), 1);
    due.is("the latest a third time", x.of(0, 2), 60);
    TalkKnots empty = new TalkKnots();
    empty.image();
    empty.knot(0, 0);
    empty.set(0, 2, 77);
    empty.set(0, 4, 12);
    empty.cast(0);
    due.is("undo() to no knots", empty.undo(), 0);
    due.is("a new one is as at first", empty.knot(1, 2), 0);
    int[] want = {1, 2, 50, 1, 0};
    for (int what = 0; what < 5; what++) {
      due.is("as at first: of(0, " + what + ")", empty.of(0, what), want[what]);
    }
  }

  private static void tear() {
    TalkKnots x = Due.told("knot 0");
    due.is("tear() of nothing", x.tear(), 0);
    due.is("undo() of nothing", x.undo(), Due.NONE);
    x.image();
    due.is("tear()", x.tear(), 1);
    due.is("tear() again", x.tear(), 0);
    due.is("undo() when torn", x.undo(), Due.NONE);
    due.is("nothing changed", x.count(0), 1);
    due.is("status(3)", x.status(3), 2);
  }

  private static void count() {
    TalkKnots x = Due.told("knot 0; knot 1 loose; mast 3 999");
    x.set(0, 4, 9999);
    x.set(1, 4, 12);
    Due.feed(x, "abc");
    int[] want = {2, 3, 1299, 10011};
    for (int what = 0; what < 4; what++) {
      due.is("count(" + what + ")", x.count(what), want[what]);
    }
    TalkKnots fallen = Due.told("mast 2 50 down; knot 2; vow 2 loose");
    fallen.set(0, 4, 30);
    fallen.set(1, 4, 4);
    due.is("weights, that of a mast that fell, too", fallen.count(2), 350);
    due.is("ages, those of its knots, too", fallen.count(3), 34);
    due.is("count(4)", x.count(4), Due.BEYOND);
    due.is("count(-1)", x.count(-1), Due.BEYOND);
  }

  private static void status() {
    TalkKnots x = new TalkKnots();
    x.image();
    x.wind(12, 0);
    x.wind(0, 100);
    for (int k = 0; k < 11; k++) {
      x.knot(0, 0);
    }
    x.as(0, 1);
    x.falls(4);
    x.kind(99);
    x.tie(0);
    x.tie(1);
    x.lays(0);
    x.lays(1);
    x.lays(2);
    x.sheet(0, 8, -1);
    x.sheet(0, 0, -5);
    x.undo();
    x.best(3);
    int[] want = {4, 1, 1, 1, 2, 3, 2};
    for (int which = 0; which < 7; which++) {
      due.is("status(" + which + ")", x.status(which), want[which]);
    }
    due.is("status(-1)", x.status(-1), 14);
    due.is("status(7)", x.status(7), Due.BEYOND);
    due.is("status(-2)", x.status(-2), Due.BEYOND);
    due.is("counted from then on", x.status(0), 6);
    due.is("counted in all", x.status(-1), 16);
    x.undo();
    due.is("undo() takes none back", x.status(-1), 16);
  }
}
