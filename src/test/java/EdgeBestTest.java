/** The edges of promises 20 to 26: what is best. */
public final class EdgeBestTest {
  private static final Due due = new Due();

  public static void main(String[] args) {
    bestIsLaterThanAsItIs();
    bestOfSeveral();
    bestOfNone();
    bestIsTriedOnAll();
    kindIsLatest();
    kindOfNoHour();
    openIsLeast();
    openOfHours();
    bearsIsGreatest();
    bearsOfHours();
    moveOfSeveral();
    moveOfHours();
    calmOfSeveral();
    calmOfHours();
    firmestOfSeveral();
    firmestOfHours();
    due.end();
  }

  private static TalkKnots calmly(String text) {
    TalkKnots x = Due.told(text);
    for (int place = 0; place < 12; place++) {
      x.wind(place, 0);
    }
    return x;
  }

  // Promise 20: "so that a MAST falls latest (..), later than as it is"
  private static void bestIsLaterThanAsItIs() {
    // 98 under 100: it falls in an hour; teased it HOLDS 128.
    due.is("later", calmly("knot 0 open 49").best(0), 0);
    // OPEN 99 at most, and 198 under 199: as early as before.
    due.is("no later: it can't be held", calmly("mast 0 199; knot 0 open 98").best(0), Due.NONE);
    due.is("just held", calmly("mast 0 198; knot 0 open 98").best(0), 0);
    due.is("held as long as before", calmly("mast 0 100; knot 0 open 99").best(0), Due.NONE);
    // A SPLICE of 60 is 90 then and never gives way: not at all is latest.
    due.is("not at all", calmly("mast 0 999; knot 0 open 99; splice 0 open 60").best(0), 1);
    due.is("just not: 89", calmly("mast 0 999; knot 0 open 99; splice 0 open 59").best(0), Due.NONE);
    due.is("a FOOL is OPEN 20 less", calmly("mast 0 50; fool 0 open 50").best(0), 0);
    // A FOOL of 0 under nothing gives way in 100 HOURS, teased or not.
    due.is("a FOOL of 0 can't be less", calmly("mast 0 0; fool 0 open 0").best(0), Due.NONE);
    due.is("a FOOL of 1 can", calmly("mast 0 0; fool 0 open 1").best(0), 0);
    due.is("a VOW of 90 can't be more", calmly("mast 0 181; vow 0 open 90").best(0), Due.NONE);
    TalkKnots old = calmly("mast 0 179; vow 0 open 89");
    old.set(0, 4, 5);
    due.is("a VOW of 89 can", old.best(0), 0);
  }

  // "of several the least"
  private static void bestOfSeveral() {
    due.is("two alike", calmly("mast 0 999; splice 0 open 60; splice 0 open 60").best(0), 0);
    due.is("the first too small", calmly("mast 0 999; splice 0 open 59; splice 0 open 60;"
        + " splice 0 open 60").best(0), 1);
    // Teased, 0 makes it an hour later, and 1 never gives way: 267 under 250.
    due.is("the latest, not the first", calmly("mast 0 250; knot 0 open 60; splice 0 open 59").best(0), 1);
  }

  // "NONE."
  private static void bestOfNone() {
    due.is("no KNOTS", new TalkKnots().best(0), Due.NONE);
    due.is("it has fallen", calmly("mast 0 100 down; knot 0 open 40").best(0), Due.NONE);
    due.is("it doesn't fall", calmly("splice 0 open 99; knot 0 open 1").best(0), Due.NONE);
    due.is("all are loose", calmly("knot 0 open 40 loose; splice 0 open 99 loose").best(0),
        Due.NONE);
    due.is("another MAST's don't help", calmly("knot 1 open 49; knot 2 open 49").best(0), Due.NONE);
    due.is("an hour's fall is all there is", calmly("mast 0 999; knot 0 open 0").best(0), Due.NONE);
  }

  private static void bestIsTriedOnAll() {
    TalkKnots x = calmly("mast 3 999; mast 0 999");
    for (int k = 0; k < 9; k++) {
      x.knot(0, 0);
    }
    x.knot(1, 3);
    x.set(9, 2, 60);
    due.is("the tenth", x.best(3), 9);
    due.is("nothing is teased", x.of(9, 2), 60);
    x.set(9, 2, 50);
    due.is("nor the tenth", x.best(3), Due.NONE);
  }

  // Promise 21: "gives way latest (within 200 HOURS; not at all: latest); of several the least"
  private static void kindIsLatest() {
    due.is("89: a VOW is held for its AGE", calmly("mast 0 999; knot 0 open 89").kind(0), 5);
    due.is("90: a SPLICE never gives way", calmly("mast 0 999; knot 0 open 90").kind(0), 1);
    due.is("no STRAIN: a KNOT never gives way", calmly("mast 0 0; fool 0 open 50").kind(0), 0);
    due.is("99 under 0: a KNOT", calmly("mast 0 0; fool 0 open 99").kind(0), 0);
    // OPEN 0: a FOOL HOLDS 99, a VOW 60, the others nothing.
    due.is("OPEN 0 under 99: a VOW has AGE 0 to 2", calmly("mast 0 99; knot 0 open 0").kind(0), 5);
    TalkKnots x = calmly("mast 0 99; knot 0 open 0");
    x.set(0, 4, 3);
    due.is("OPEN 0 under 99, older: a FOOL", x.kind(0), 3);
    x.weight(0, 100);
    due.is("OPEN 0 under 100, older: all alike", x.kind(0), 0);
    x.weight(0, 60);
    due.is("OPEN 0 under 60: a VOW never gives way", x.kind(0), 5);
    x.weight(0, 61);
    due.is("OPEN 0 under 61: a FOOL, for 38 hours", x.kind(0), 3);
    due.is("nothing is turned", x.of(0, 0), 0);
    // With another at its side a HAWSER HOLDS 10 more than a SPLICE.
    x = calmly("mast 0 380; knot 0 open 60; splice 0 open 99");
    due.is("a HAWSER holds 190", x.kind(0), 4);
    x.weight(0, 361);
    due.is("a SPLICE holds 180", x.kind(0), 1);
    x.weight(0, 362);
    due.is("but not 181", x.kind(0), 4);
    x.weight(0, 382);
    due.is("nor a HAWSER 191", x.kind(0), 5);
  }

  private static void kindOfNoHour() {
    due.is("a loose one", calmly("vow 0 loose").kind(0), 0);
    due.is("one of a MAST that fell", calmly("mast 0 999 down; vow 0 open 3").kind(0), 0);
  }

  // Promise 22: "The least OPEN (0 to 99) of one now with which it is FAST ON n HOURS (0 to 100)"
  private static void openIsLeast() {
    int[][] rows = {
      // kind, WEIGHT, the least OPEN for an hour
      {0, 0, 0}, {0, 1, 1}, {0, 2, 1}, {0, 3, 2}, {0, 197, 99}, {0, 198, 99}, {0, 199, Due.NONE},
      {1, 118, 59}, {1, 119, 60}, {1, 180, 60}, {1, 181, 61}, {1, 267, 89}, {1, 268, 90},
      {1, 999, 90}, {2, 198, 99}, {2, 199, Due.NONE}, {3, 0, 0}, {3, 99, 0}, {3, 100, Due.NONE},
      {4, 118, 59}, {4, 268, 90}, {5, 999, 0},
    };
    for (int[] row : rows) {
      TalkKnots x = calmly("fool 0 open 98");
      x.turn(0, row[0]);
      x.weight(0, row[1]);
      due.is("kind " + row[0] + " under " + row[1], x.open(0, 1), row[2]);
      due.is("OPEN as it was", x.of(0, 2), 98);
    }
    TalkKnots x = calmly("mast 0 60; vow 0");
    x.set(0, 4, 3);
    due.is("an older VOW under 60", x.open(0, 1), 0);
    x.weight(0, 61);
    due.is("under 61", x.open(0, 1), 31);
    x.weight(0, 199);
    due.is("under 199", x.open(0, 1), Due.NONE);
  }

  private static void openOfHours() {
    TalkKnots x = calmly("mast 0 999; knot 0; knot 1 loose; mast 2 999 down; fool 2");
    due.is("ON no HOUR any is enough", x.open(0, 0), 0);
    due.is("ON one none is", x.open(0, 1), Due.NONE);
    due.is("a loose one ON no HOUR", x.open(1, 0), Due.NONE);
    due.is("one of a MAST that fell ON 100", x.open(2, 100), 0);
    // HOUR n - 1 is the last that it must hold: 2 times (OPEN less 2 for each hour before).
    x = calmly("mast 0 100; knot 0");
    due.is("ON 1", x.open(0, 1), 50);
    due.is("ON 2", x.open(0, 2), 52);
    due.is("ON 25", x.open(0, 25), 98);
    due.is("ON 26", x.open(0, 26), Due.NONE);
    x = calmly("mast 0 0; fool 0");
    due.is("a FOOL ON 99", x.open(0, 99), 0);
    due.is("a FOOL ON 100, which it isn't", x.open(0, 100), Due.NONE);
    due.is("n 101", x.open(0, 101), Due.BEYOND);
    due.is("n -1", x.open(0, -1), Due.BEYOND);
  }

  // Promise 23: "The greatest WEIGHT (0 to 999) of a MAST with which it is UP ON n HOURS"
  private static void bearsIsGreatest() {
    int[] opens = {0, 1, 49, 50, 99};
    int[] want = {0, 2, 98, 100, 198};
    for (int i = 0; i < opens.length; i++) {
      TalkKnots x = calmly("knot 0");
      x.set(0, 2, opens[i]);
      due.is("a KNOT of " + opens[i], x.bears(0, 1), want[i]);
      x.wind(0, 1);
      due.is("with 3 of the wind", x.bears(0, 1), want[i] < 3 ? Due.NONE : want[i] - 3);
    }
    due.is("a FOOL of 99 bears nothing", calmly("fool 0 open 99").bears(0, 1), Due.NONE);
    due.is("a FOOL of 98", calmly("fool 0 open 98").bears(0, 1), 1);
    due.is("a SPLICE of 89", calmly("splice 0 open 89").bears(0, 1), 267);
    due.is("a SPLICE of 90", calmly("splice 0 open 90").bears(0, 1), 999);
    due.is("two of 50: cut", calmly("knot 0; knot 0").bears(0, 1), 201);
    // 10 of 49, 98 each: 989 / 10 is 98.
    TalkKnots x = calmly("wind 0 0");
    for (int k = 0; k < 10; k++) {
      x.knot(0, 0);
      x.set(k, 2, 49);
    }
    due.is("ten: 989", x.bears(0, 1), 989);
    x.set(0, 2, 50);
    due.is("ten, one of 100: 999 can't be held by the others", x.bears(0, 1), 999);
    due.is("as that one stays FAST", x.weight(0, 999), 100);
    due.is("alone", x.then(1, 1), 1);
  }

  private static void bearsOfHours() {
    TalkKnots x = calmly("knot 0; mast 1 5 down; splice 1 open 99");
    due.is("ON no HOUR all of it", x.bears(0, 0), 999);
    due.is("ON 1", x.bears(0, 1), 100);
    due.is("ON 2", x.bears(0, 2), 96);
    due.is("ON 25", x.bears(0, 25), 4);
    due.is("ON 26: OPEN 0", x.bears(0, 26), 0);
    due.is("ON 100", x.bears(0, 100), 0);
    due.is("n 101", x.bears(0, 101), Due.BEYOND);
    due.is("n -1", x.bears(0, -1), Due.BEYOND);
    due.is("it has fallen ON no HOUR", x.bears(1, 0), Due.NONE);
    due.is("nor UP ON 100", x.bears(1, 100), Due.NONE);
    due.is("no KNOT ON no HOUR", x.bears(2, 0), 999);
    due.is("no KNOT ON 1", x.bears(2, 1), Due.NONE);
    x.wind(5, 99);
    due.is("the wind of HOUR 5 isn't in 5 HOURS", x.bears(0, 5), 84);
    due.is("but in 6", x.bears(0, 6), Due.NONE);
    due.is("WEIGHT as it was", x.mastOf(0, 0), 100);
  }

  // Promise 24: "so that most MASTS are UP ON n HOURS; of several the least"
  private static void moveOfSeveral() {
    due.is("alone: anywhere", calmly("splice 3 open 99").move(0, 1), 0);
    due.is("a loose one: anywhere", calmly("splice 3 open 99 loose").move(0, 1), 0);
    due.is("to the first that has none",
        calmly("splice 0 open 99; splice 1 open 99; splice 0 open 99").move(2, 1), 2);
    due.is("to the last that has none", calmly("splice 0 open 99; splice 1 open 99;"
        + " splice 2 open 99; splice 0 open 99").move(3, 1), 3);
    due.is("not to one that fell", calmly("mast 0 1 down; mast 1 1 down; mast 2 1 down;"
        + " splice 0 open 99").move(0, 1), 3);
    due.is("all fell: the least", calmly("mast 0 1 down; mast 1 1 down; mast 2 1 down;"
        + " mast 3 1 down; splice 2 open 99").move(0, 1), 0);
    due.is("where it can be held", calmly("mast 0 101; mast 1 101; knot 0").move(0, 1), 2);
    due.is("where it helps another", calmly("mast 3 200; knot 3; knot 0; mast 0 999; mast 1 999;"
        + " mast 2 999").move(1, 1), 3);
  }

  private static void moveOfHours() {
    TalkKnots x = calmly("mast 0 97; mast 1 96; knot 3");
    due.is("ON 1", x.move(0, 1), 0);
    due.is("ON 2: 96", x.move(0, 2), 1);
    due.is("ON 3: none stands", x.move(0, 3), 0);
    due.is("ON 100", x.move(0, 100), 0);
    due.is("n 0", x.move(0, 0), Due.BEYOND);
    due.is("n 101", x.move(0, 101), Due.BEYOND);
    due.is("MAST as it was", x.of(0, 1), 3);
  }

  // Promise 25: "The place of WIND (0 to 11) that, calm (0), keeps most KNOTS FAST ON n HOURS"
  private static void calmOfSeveral() {
    due.is("no KNOTS: the least", new TalkKnots().calm(100), 0);
    due.is("no wind: the least", calmly("knot 0").calm(100), 0);
    for (int place = 0; place < 12; place++) {
      TalkKnots x = calmly("mast 0 0; splice 0 open 60");
      x.wind(place, 99);
      due.is("the only windy place", x.calm(12), place);
      due.is("its WIND as it was", x.wind(place, 99), 99);
      x.wind((place + 1) % 12, 99);
      due.is("two windy places: neither is enough", x.calm(12), 0);
    }
  }

  private static void calmOfHours() {
    TalkKnots x = calmly("mast 0 0; splice 0 open 60");
    x.wind(11, 99);
    due.is("HOUR 11 isn't within 11", x.calm(11), 0);
    due.is("but within 12", x.calm(12), 11);
    due.is("and within 100", x.calm(100), 11);
    x.wind(11, 0);
    x.wind(0, 99);
    due.is("HOUR 0 is within 1", x.calm(1), 0);
    x.wind(0, 0);
    x.wind(1, 99);
    due.is("HOUR 1 isn't within 1", x.calm(1), 0);
    due.is("but within 2", x.calm(2), 1);
    due.is("n 0", x.calm(0), Due.BEYOND);
    due.is("n 101", x.calm(101), Due.BEYOND);
  }

  // Promise 26: "Which KNOT HOLDS most ON n HOURS (0 to 200); of several the least"
  private static void firmestOfSeveral() {
    due.is("none", new TalkKnots().firmest(0), Due.NONE);
    due.is("one that HOLDS 0", calmly("knot 0 open 0").firmest(0), 0);
    due.is("one that is loose", calmly("knot 0 loose").firmest(0), 0);
    due.is("all loose: the least", calmly("knot 0 loose; splice 1 open 99 loose").firmest(0), 0);
    due.is("two alike", calmly("knot 0 loose; knot 1 open 30; vow 2 open 30").firmest(0), 1);
    due.is("60 against 62", calmly("vow 1 open 30; knot 2 open 31").firmest(0), 1);
    TalkKnots x = calmly("wind 0 0");
    for (int k = 0; k < 10; k++) {
      x.knot(0, 0);
    }
    due.is("ten alike", x.firmest(0), 0);
    x.set(9, 2, 51);
    due.is("the tenth", x.firmest(0), 9);
  }

  private static void firmestOfHours() {
    // 99 less 1 each hour for the FOOL; 2 times 40 less 2 for each hour for the KNOT.
    TalkKnots x = calmly("mast 0 0; knot 0 open 60; fool 0 open 0");
    due.is("ON 0: 120 against 99", x.firmest(0), 0);
    due.is("ON 7: 92 against 92, the least", x.firmest(7), 0);
    due.is("ON 8: 88 against 91", x.firmest(8), 1);
    due.is("ON 99: 0 against 0", x.firmest(99), 0);
    due.is("ON 200: 0 against a loose one's 0", x.firmest(200), 0);
    due.is("n 201", x.firmest(201), Due.BEYOND);
    due.is("n -1", x.firmest(-1), Due.BEYOND);
    // In the WIND of the place that HOUR has then.
    x = calmly("mast 0 0 down; hitch 0 open 99; knot 0 open 97");
    x.wind(0, 50);
    due.is("198 less 50 against 194", x.firmest(0), 1);
    due.is("ON 1: 184 against 190", x.firmest(1), 1);
    x.wind(0, 5);
    due.is("198 less 5 against 194", x.firmest(0), 1);
    due.is("ON 1: 194 against 190", x.firmest(1), 0);
    x.wind(1, 4);
    due.is("ON 1: 190 against 190", x.firmest(1), 0);
    x.wind(1, 5);
    due.is("ON 1: 189 against 190", x.firmest(1), 1);
  }
}
