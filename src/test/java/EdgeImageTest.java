import java.util.List;

/** The edges of promises 1 and 36 to 40: images, counts and the status. */
public final class EdgeImageTest {
  private static final Due due = new Due();

  public static void main(String[] args) {
    newObjects();
    imageKeepsAll();
    imageKeepsNoTapeNorSheets();
    imageOfTheEmptyAndTheFull();
    latestIsKeptAndStays();
    imageDoesntFollow();
    tear();
    counts();
    statusOfNothing();
    statusCountsItself();
    statusIsNeverTakenBack();
    answersThatAreNoFindings();
    due.end();
  }

  // Promise 1, and that objects have nothing in common
  private static void newObjects() {
    TalkKnots busy = Worlds.make("full");
    String other = Seen.difference(Seen.all(new TalkKnots()), Seen.all(new TalkKnots()));
    due.holds("all new ones are alike, but " + other, other == null);
    TalkKnots x = new TalkKnots();
    due.is("no KNOTS", x.count(0), 0);
    due.is("THE TAPE is empty", x.count(1), 0);
    due.is("no image is kept", x.tear(), 0);
    due.is("nothing to undo", x.undo(), Due.NONE);
    due.is("the busy one is full all the same", busy.count(0), 10);
  }

  private static void change(TalkKnots x) {
    for (int place = 0; place < 12; place++) {
      x.wind(place, 90 - place);
    }
    for (int mast = 0; mast < 4; mast++) {
      x.weight(mast, 900 + mast);
    }
    for (int k = 0; k < x.count(0); k++) {
      x.turn(k, (x.of(k, 0) + 1) % 6);
      x.set(k, 1, (x.of(k, 1) + 1) % 4);
      x.set(k, 2, 99 - x.of(k, 2));
      x.set(k, 4, 4321);
      if (x.of(k, 3) == 1) {
        x.cast(k);
      } else {
        x.tie(k);
      }
    }
    x.knot(5, 3);
    x.hours(5);
    x.raise(3);
  }

  // Promise 36: "All that section 1 tells .. is kept", 37: "It becomes what was kept latest"
  private static void imageKeepsAll() {
    for (String world : new String[] {"new", "some", "full", "odd", "told"}) {
      TalkKnots x = Worlds.make(world);
      TalkKnots twin = Worlds.make(world);
      due.is("image()", x.image(), 1);
      twin.image();
      change(x);
      due.is("undo() of " + world, x.undo(), twin.count(0));
      String other = Seen.difference(Seen.all(x), Seen.all(twin));
      due.holds("as it was in " + world + ", but " + other, other == null);
    }
  }

  // "(THE TAPE not)"; sheets are no part of section 1.
  private static void imageKeepsNoTapeNorSheets() {
    TalkKnots x = new TalkKnots();
    Worlds.feedFours(x, "vow");
    x.sheet(0, 8, 2);
    x.sheet(1, 8, 2);
    x.write(0, 0, 5);
    x.image();
    Worlds.feedFours(x, " 2");
    x.write(0, 0, 6);
    x.sheet(1, 0, 0);
    x.sheet(2, 16, 1);
    x.undo();
    due.is("bytes as they were fed", x.count(1), 5);
    due.is("numbers as they were written", x.write(0, 0, 0), 6);
    due.is("a sheet that is MISSING", x.write(1, 0, 0), Due.MISSING);
    due.is("a sheet that came", x.write(2, 0, 0), 0);
    due.is("the text of all bytes", x.yard(), 1);
    due.is("its MAST", x.of(0, 1), 2);
    x.feed(32, 4);
    x.image();
    x.wipe();
    x.undo();
    due.is("what is wiped stays so", x.count(1), 0);
  }

  private static void imageOfTheEmptyAndTheFull() {
    TalkKnots x = new TalkKnots();
    due.is("image of no KNOTS", x.image(), 1);
    for (int k = 0; k < 10; k++) {
      x.knot(3, 3);
      x.set(k, 2, 9);
    }
    due.is("undo to none", x.undo(), 0);
    due.is("none", x.count(0), 0);
    due.is("none is FAST", x.now(4), 0);
    due.is("none to ask", x.of(0, 0), Due.BEYOND);
    due.is("undo again", x.undo(), 0);
    for (int k = 0; k < 10; k++) {
      due.is("a new one", x.knot(1, 2), k);
      due.is("is as at first", x.of(k, 2), 50);
    }
    due.is("image of ten", x.image(), 1);
    due.is("undo to ten", x.undo(), 10);
    due.is("still full", x.knot(0, 0), Due.FULL);
  }

  // "It becomes what was kept latest (which stays)"
  private static void latestIsKeptAndStays() {
    TalkKnots x = new TalkKnots();
    x.image();
    x.knot(0, 0);
    x.image();
    x.knot(0, 0);
    for (int i = 0; i < 4; i++) {
      due.is("the latest, however often", x.undo(), 1);
      x.knot(1, 1);
      x.weight(0, 10 + i);
    }
    x.undo();
    due.is("WEIGHT of the latest", x.mastOf(0, 0), 100);
    x.hours(9);
    x.image();
    x.hours(9);
    due.is("a later one", x.undo(), 1);
    due.is("its HOUR", x.now(0), 9);
  }

  private static void imageDoesntFollow() {
    TalkKnots x = new TalkKnots();
    x.knot(0, 0);
    x.image();
    x.undo();
    x.tease(0);
    x.wind(0, 9);
    x.weight(0, 9);
    x.undo();
    due.is("OPEN", x.of(0, 2), 50);
    due.is("WIND", x.now(2), 0);
    due.is("WEIGHT", x.mastOf(0, 0), 100);
    // What is only tried out leaves the image as it is, too.
    x.open(0, 100);
    x.bears(0, 100);
    x.best(0);
    x.calm(100);
    Due.yard(x, "tease 0;$");
    x.undo();
    due.is("OPEN as it was kept", x.of(0, 2), 50);
  }

  // Promise 38
  private static void tear() {
    TalkKnots x = new TalkKnots();
    due.is("nothing was kept", x.tear(), 0);
    x.image();
    x.image();
    x.knot(0, 0);
    due.is("something was", x.tear(), 1);
    due.is("nothing is: of two images none", x.tear(), 0);
    due.is("undo", x.undo(), Due.NONE);
    due.is("the yard stays as it is", x.count(0), 1);
    x.image();
    due.is("an image kept later", x.undo(), 1);
    due.is("tear again", x.tear(), 1);
    due.is("only undo told a finding", x.status(-1), 1);
  }

  // Promise 39
  private static void counts() {
    TalkKnots x = new TalkKnots();
    List<Integer> least = List.of(0, 0, 400, 0);
    for (int what = 0; what < 4; what++) {
      due.is("count(" + what + ") at first", x.count(what), least.get(what));
    }
    for (int mast = 0; mast < 4; mast++) {
      x.weight(mast, 0);
    }
    due.is("no WEIGHT at all", x.count(2), 0);
    for (int mast = 0; mast < 4; mast++) {
      x.weight(mast, 999);
    }
    due.is("the most", x.count(2), 3996);
    for (int k = 0; k < 10; k++) {
      x.knot(k % 6, 0);
      x.set(k, 4, 9999);
    }
    x.cast(9);
    due.is("the most KNOTS", x.count(0), 10);
    due.is("the most AGE, the loose one's too", x.count(3), 99990);
    Worlds.feedTo(x, "", 120);
    due.is("the most bytes", x.count(1), 120);
    due.is("count(-1)", x.count(-1), Due.BEYOND);
    due.is("count(4)", x.count(4), Due.BEYOND);
  }

  // Promise 40
  private static void statusOfNothing() {
    TalkKnots x = new TalkKnots();
    for (int which = -1; which < 7; which++) {
      due.is("status(" + which + ") at first", x.status(which), 0);
    }
  }

  // "BEYOND (counted from then on): another one."
  private static void statusCountsItself() {
    TalkKnots x = new TalkKnots();
    int[] others = {7, -2, 8, Integer.MIN_VALUE, Integer.MAX_VALUE, Due.BEYOND};
    for (int i = 0; i < others.length; i++) {
      due.is("status(" + others[i] + ")", x.status(others[i]), Due.BEYOND);
      due.is("counted as BEYOND", x.status(0), i + 1);
      due.is("counted among all", x.status(-1), i + 1);
      for (int which = 1; which < 7; which++) {
        due.is("not as another", x.status(which), 0);
      }
    }
  }

  // "ever (undo() takes none back)"
  private static void statusIsNeverTakenBack() {
    TalkKnots x = new TalkKnots();
    x.image();
    for (int i = 0; i < 100; i++) {
      x.raise(4);
    }
    x.undo();
    due.is("undo takes none back", x.status(0), 100);
    x.tear();
    due.is("nor does tear", x.status(-1), 100);
    x.undo();
    due.is("undo's own is counted", x.status(3), 1);
    x.wipe();
    x.yard();
    x.image();
    due.is("nor any other", x.status(-1), 101);
  }

  /** Answers below 0 that are no findings aren't counted. */
  private static void answersThatAreNoFindings() {
    TalkKnots x = new TalkKnots();
    due.is("a FAULT", x.yard(), -1);
    Worlds.feedTo(x, "", 120);
    due.is("the greatest FAULT", x.yard(), -121);
    x.sheet(0, 64, 1);
    x.write(0, 0, Due.SIZE);
    due.is("a number", x.write(0, 0, Long.MIN_VALUE), Due.SIZE);
    due.is("another", x.write(0, 0, 0), Long.MIN_VALUE);
    due.is("none of them is counted", x.status(-1), 0);
  }
}
