/**
 * Promises 20 to 26: what is best. Small yards have answers reckoned by hand; for yards of all
 * sorts the answer is looked for by the plain calls, one case after another.
 */
public final class BestTest {
  private static final Due due = new Due();

  private static final String[] YARDS = {
    "knot 0; splice 0 open 60; hitch 0; fool 1; hawser 1; vow 1",
    "knot 0 open 80; knot 0 open 80; hitch 1 open 99; splice 2 open 59; vow 3 open 40",
    "mast 0 300; hawser 0 open 60; fool 0 open 10; fool 0 open 70; vow 0 open 99; knot 1 loose",
    "mast 0 0; mast 1 0; mast 2 0; mast 3 0; knot 0; hitch 1; fool 2; vow 3",
    "mast 0 400; mast 1 50; splice 0 open 70; hawser 0 open 75; knot 1; fool 1 open 90; hitch 1",
    "mast 2 250; hitch 2 open 90; hitch 2 open 80; vow 2 open 70; hawser 2 open 58; splice 2",
    "mast 0 100 down; knot 0; knot 1 open 99; fool 2 open 0; wind 0 99; wind 5 99",
    "wind 3 90; wind 7 80; mast 3 20; knot 3 open 99; hitch 3 open 99; vow 3 open 60; vow 2 loose",
    "mast 0 350; knot 0; splice 0; hitch 0; fool 0; hawser 0; vow 1; knot 1; splice 2; fool 2; vow 3",
  };

  public static void main(String[] args) {
    best();
    kind();
    open();
    bears();
    move();
    calm();
    firmest();
    for (String text : YARDS) {
      for (int hours = 0; hours <= 24; hours += 8) {
        search(text, hours);
      }
    }
    due.end();
  }

  private static void best() {
    TalkKnots x = Due.told("knot 1; knot 0 open 60; splice 2 open 95; fool 0 open 80;"
        + " knot 0 loose");
    due.is("best(0): the knot that holds it", x.best(0), 1);
    due.is("best(1)", x.best(1), 0);
    due.is("best(2), which doesn't fall", x.best(2), Due.NONE);
    due.is("best(3), which has no knot", x.best(3), Due.NONE);
    due.is("best(4)", x.best(4), Due.BEYOND);
    due.is("best(-1)", x.best(-1), Due.BEYOND);
    due.is("nothing changed", x.of(0, 2), 50);
    due.is("two alike: the least", Due.told("knot 1; splice 0 open 64; splice 0 open 64;"
        + " mast 0 500").best(0), 1);
    due.is("one that fell", Due.told("mast 0 100 down; knot 0").best(0), Due.NONE);
    due.is("teasing won't help", Due.told("mast 0 999; knot 0").best(0), Due.NONE);
  }

  private static void kind() {
    TalkKnots x = Due.told("vow 0 open 95; knot 1 loose; mast 2 999 down; fool 2 open 99");
    due.is("open 95: a splice and a hawser never give way", x.kind(0), 1);
    due.is("a loose one: all alike", x.kind(1), 0);
    due.is("one of a mast that fell: all alike", x.kind(2), 0);
    due.is("kind(3)", x.kind(3), Due.BEYOND);
    due.is("kind(-1)", x.kind(-1), Due.BEYOND);
    due.is("nothing changed", x.of(0, 0), 5);
    due.is("a vow holds at first", Due.told("mast 0 999; knot 0").kind(0), 5);
  }

  private static void open() {
    TalkKnots x = Due.told("knot 0 loose; knot 1; mast 1 101; fool 2; mast 2 70; mast 3 999;"
        + " knot 3");
    due.is("open of a loose one", x.open(0, 0), Due.NONE);
    due.is("open(1, 0)", x.open(1, 0), 0);
    due.is("open(1, 1)", x.open(1, 1), 51);
    // In hour 1 the STRAIN is 122, and the KNOT is 2 less OPEN.
    due.is("open(1, 2)", x.open(1, 2), 63);
    due.is("a fool's knot had best be shut", x.open(2, 1), 0);
    due.is("open(3, 1)", x.open(3, 1), Due.NONE);
    due.is("open(1, 101)", x.open(1, 101), Due.BEYOND);
    due.is("open(1, -1)", x.open(1, -1), Due.BEYOND);
    due.is("open(4, 1)", x.open(4, 1), Due.BEYOND);
    due.is("open(-1, 1)", x.open(-1, 1), Due.BEYOND);
    due.is("nothing changed", x.of(1, 2), 50);
    due.is("only 99 will do", Due.told("mast 0 198; knot 0").open(0, 1), 99);
    due.is("nor will that", Due.told("mast 0 199; knot 0").open(0, 1), Due.NONE);
    due.is("a splice of 90", Due.told("mast 0 999; splice 0").open(0, 100), 90);
  }

  private static void bears() {
    TalkKnots x = Due.told("knot 0 open 60; splice 1 open 95; mast 2 100 down; knot 2");
    due.is("bears(0, 0)", x.bears(0, 0), 999);
    due.is("bears(0, 1)", x.bears(0, 1), 120);
    due.is("bears(0, 2)", x.bears(0, 2), 116 - 21);
    due.is("bears(1, 100)", x.bears(1, 100), 999);
    due.is("bears(2, 0), which fell", x.bears(2, 0), Due.NONE);
    due.is("bears(3, 0)", x.bears(3, 0), 999);
    due.is("bears(3, 1), which has no knot", x.bears(3, 1), Due.NONE);
    due.is("bears(4, 0)", x.bears(4, 0), Due.BEYOND);
    due.is("bears(-1, 0)", x.bears(-1, 0), Due.BEYOND);
    due.is("bears(0, 101)", x.bears(0, 101), Due.BEYOND);
    due.is("bears(0, -1)", x.bears(0, -1), Due.BEYOND);
    due.is("nothing changed", x.mastOf(0, 0), 100);
    due.is("a weight of 0", Due.told("wind 0 30; knot 0 open 45").bears(0, 1), 0);
    due.is("not even that", Due.told("wind 0 30; knot 0 open 44").bears(0, 1), Due.NONE);
    due.is("two that share, cut", Due.told("splice 0 open 89; splice 0 open 89").bears(0, 1), 535);
    due.is("just 999", Due.told("splice 0 open 83; splice 0 open 83; splice 0 open 83;"
        + "splice 0 open 83").bears(0, 1), 999);
  }

  private static void move() {
    TalkKnots x = Due.told("splice 0 open 95; splice 0 open 95; knot 3 loose");
    due.is("a second one elsewhere", x.move(1, 5), 1);
    due.is("a loose one anywhere", x.move(2, 5), 0);
    due.is("move(3, 1)", x.move(3, 1), Due.BEYOND);
    due.is("move(-1, 1)", x.move(-1, 1), Due.BEYOND);
    due.is("move(0, 0)", x.move(0, 0), Due.BEYOND);
    due.is("move(0, 101)", x.move(0, 101), Due.BEYOND);
    due.is("nothing changed", x.of(1, 1), 0);
  }

  private static void calm() {
    due.is("no knots", new TalkKnots().calm(1), 0);
    TalkKnots x = Due.told("wind 0 0; wind 1 0; wind 2 40; mast 0 50; knot 0 open 60");
    due.is("all the same within two hours", x.calm(2), 0);
    // In hour 2 the KNOT HOLDS 112, under 50 and 120.
    due.is("the windy place", x.calm(3), 2);
    x.weight(0, 112);
    due.is("the windy place, just held when calm", x.calm(3), 2);
    x.weight(0, 113);
    due.is("the windy place, not held when calm", x.calm(3), 0);
    due.is("calm(0)", x.calm(0), Due.BEYOND);
    due.is("calm(101)", x.calm(101), Due.BEYOND);
    due.is("calm(-1)", x.calm(-1), Due.BEYOND);
    due.is("nothing changed", x.wind(2, 40), 40);
  }

  private static void firmest() {
    TalkKnots x = new TalkKnots();
    due.is("no knots", x.firmest(0), Due.NONE);
    due.is("no knots, too far", x.firmest(201), Due.BEYOND);
    x = Due.told("knot 0 loose; knot 1 open 80; hitch 0 open 80; splice 2 open 62;"
        + " hawser 0 open 62");
    due.is("firmest(0): the hawser with another", x.firmest(0), 4);
    x.cast(2);
    due.is("of two alike the least", x.firmest(0), 3);
    due.is("firmest(200)", x.firmest(200), 3);
    due.is("firmest(201)", x.firmest(201), Due.BEYOND);
    due.is("firmest(-1)", x.firmest(-1), Due.BEYOND);
    due.is("all loose", Due.told("knot 0 loose; vow 1 loose").firmest(3), 0);
    x = Due.told("wind 0 0; wind 1 90; mast 0 0; mast 1 0; hitch 0 open 99; knot 1 open 96");
    due.is("in the wind of now", x.firmest(0), 0);
    due.is("in the wind of then", x.firmest(1), 1);
  }

  /** Looks for each answer by the plain calls, in a yard in which hours have gone by. */
  private static void search(String text, int hours) {
    TalkKnots x = Due.told(text);
    if (hours > 0) {
      x.hours(hours);
    }
    x.image();
    String told = " of " + text + " after " + hours;
    for (int mast = 0; mast < 4; mast++) {
      due.is("best(" + mast + ")" + told, x.best(mast), bestSought(x, mast));
      for (int n = 0; n <= 100; n += 20) {
        due.is("bears(" + mast + ", " + n + ")" + told, x.bears(mast, n), bearsSought(x, mast, n));
      }
    }
    for (int k = 0; k < x.count(0); k++) {
      due.is("kind(" + k + ")" + told, x.kind(k), kindSought(x, k));
      for (int n = 1; n <= 100; n += 11) {
        due.is("open(" + k + ", " + n + ")" + told, x.open(k, n), openSought(x, k, n));
        due.is("move(" + k + ", " + n + ")" + told, x.move(k, n), moveSought(x, k, n));
      }
    }
    for (int n = 1; n <= 100; n += 3) {
      due.is("calm(" + n + ")" + told, x.calm(n), calmSought(x, n));
      due.is("firmest(" + n + ")" + told, x.firmest(n), firmestSought(x, n));
    }
  }

  private static int orNever(int hours) {
    return hours == Due.NONE ? 201 : hours;
  }

  private static int bestSought(TalkKnots x, int mast) {
    int latest = orNever(x.falls(mast));
    int found = Due.NONE;
    for (int k = 0; k < x.count(0); k++) {
      x.tease(k);
      int hours = orNever(x.falls(mast));
      if (hours > latest) {
        latest = hours;
        found = k;
      }
      x.undo();
    }
    return found;
  }

  private static int bearsSought(TalkKnots x, int mast, int n) {
    int found = Due.NONE;
    for (int weight = 999; weight >= 0 && found < 0; weight--) {
      x.weight(mast, weight);
      if ((x.then(n, 0) >> mast & 1) == 1) {
        found = weight;
      }
    }
    x.undo();
    return found;
  }

  private static int kindSought(TalkKnots x, int k) {
    int latest = -1;
    int found = -1;
    for (int kind = 0; kind < 6; kind++) {
      x.turn(k, kind);
      int hours = orNever(x.gives(k));
      if (hours > latest) {
        latest = hours;
        found = kind;
      }
    }
    x.undo();
    return found;
  }

  private static int openSought(TalkKnots x, int k, int n) {
    int found = Due.NONE;
    for (int open = 0; open < 100 && found < 0; open++) {
      x.set(k, 2, open);
      if (x.on(k, n, 1) == 1) {
        found = open;
      }
    }
    x.undo();
    return found;
  }

  private static int moveSought(TalkKnots x, int k, int n) {
    int most = -1;
    int found = -1;
    for (int mast = 0; mast < 4; mast++) {
      x.set(k, 1, mast);
      int standing = Integer.bitCount(x.then(n, 0));
      if (standing > most) {
        most = standing;
        found = mast;
      }
    }
    x.undo();
    return found;
  }

  private static int calmSought(TalkKnots x, int n) {
    int most = -1;
    int found = -1;
    for (int place = 0; place < 12; place++) {
      x.wind(place, 0);
      int fast = Integer.bitCount(x.then(n, 1));
      if (fast > most) {
        most = fast;
        found = place;
      }
      x.undo();
    }
    return found;
  }

  private static int firmestSought(TalkKnots x, int n) {
    x.hours(n);
    int found = 0;
    for (int k = 1; k < x.count(0); k++) {
      if (x.of(k, 5) > x.of(found, 5)) {
        found = k;
      }
    }
    x.undo();
    return found;
  }
}
