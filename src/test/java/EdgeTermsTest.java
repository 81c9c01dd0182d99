/** The bounds that 'Terms' names, sentence by sentence, but for the text (EdgeTextTest). */
public final class EdgeTermsTest {
  private static final Due due = new Due();
  private static final int[] WINDS = {0, 1, 9, 10, 11, 19, 20, 50, 89, 90, 98, 99};
  private static final int[] AGES = {0, 1, 2, 3, 4, 5, 6, 7, 9998, 9999};

  public static void main(String[] args) {
    findingsAreNumbered();
    findingsInLongs();
    quotientsAreCut();
    hourAndItsPlace();
    windAtFirst();
    mastsAtFirst();
    atMostTenKnots();
    knotAtFirst();
    ageIsHeld();
    ageIsOfHoursThatItWasFast();
    for (int kind = 0; kind < 6; kind++) {
      holds(kind);
      settles(kind);
      teased(kind);
      gives(kind);
      teaseIsHeld(kind);
    }
    hawserCountsOthers();
    looseOnesHoldNothing();
    strain();
    due.end();
  }

  /** A KNOT of a KIND alone on MAST 0, so far OPEN and so old, in a wind. */
  private static TalkKnots one(int kind, int open, int age, int wind) {
    TalkKnots x = new TalkKnots();
    x.wind(0, wind);
    x.knot(kind, 0);
    x.set(0, 2, open);
    x.set(0, 4, age);
    return x;
  }

  // "FINDINGS are answers below -1000000000: -1000000001 BEYOND, .. -1000000007 SIZE"
  private static void findingsAreNumbered() {
    TalkKnots x = new TalkKnots();
    due.is("BEYOND", x.raise(4), -1000000001);
    for (int k = 0; k < 10; k++) {
      x.knot(0, 0);
    }
    due.is("FULL", x.knot(0, 0), -1000000002);
    due.is("KIND", x.as(0, 1), -1000000003);
    due.is("NONE", x.undo(), -1000000004);
    due.is("STATE", x.tie(0), -1000000005);
    due.is("MISSING", x.lays(0), -1000000006);
    due.is("SIZE", x.sheet(0, 8, -1), -1000000007);
    for (int which = 0; which < 7; which++) {
      due.is("each of them once: status(" + which + ")", x.status(which), 1);
    }
  }

  // "(in longs, too)"
  private static void findingsInLongs() {
    TalkKnots x = new TalkKnots();
    long missing = x.write(0, 0, 1);
    due.is("MISSING as a long", missing, -1000000006L);
    long beyond = x.write(4, 0, 1);
    due.is("BEYOND as a long", beyond, -1000000001L);
    x.sheet(0, 64, 1);
    x.write(0, 0, -1000000001L);
    due.is("a number that looks like a finding is none", x.write(0, 0, 0), -1000000001L);
    due.is("and isn't counted", x.status(-1), 2);
  }

  // "Quotients are cut."
  private static void quotientsAreCut() {
    TalkKnots x = new TalkKnots();
    int[] want = {100, 50, 33, 25, 20, 16, 14, 12, 11, 10};
    for (int k = 0; k < 10; k++) {
      x.knot(0, 0);
      due.is("100 for " + (k + 1), x.mastOf(0, 4), want[k]);
    }
    x.weight(0, 9);
    due.is("9 for ten", x.mastOf(0, 4), 0);
    x.weight(0, 19);
    due.is("19 for ten", x.mastOf(0, 4), 1);
    due.is("a tenth of 9", one(2, 50, 0, 9).of(0, 6), 102);
    due.is("a tenth of 19", one(2, 50, 0, 19).of(0, 6), 103);
    due.is("a tenth of 99", one(2, 50, 0, 99).of(0, 6), 111);
  }

  // "HOUR: 0 at first; its place: its rest by 12"
  private static void hourAndItsPlace() {
    TalkKnots x = new TalkKnots();
    due.is("HOUR at first", x.now(0), 0);
    due.is("its place at first", x.now(1), 0);
    for (int hour = 1; hour <= 37; hour++) {
      x.hours(1);
      due.is("HOUR", x.now(0), hour);
      due.is("place of HOUR " + hour, x.now(1), hour % 12);
      due.is("WIND of HOUR " + hour, x.now(2), 7 * (hour % 12) % 30);
    }
    x = new TalkKnots();
    x.hours(11);
    due.is("the last place of a day", x.now(1), 11);
    x.hours(1);
    due.is("then the first of the next", x.now(1), 0);
    due.is("though HOUR goes on", x.now(0), 12);
    windComesRound();
  }

  /** Only place 0 has wind: a HITCH settles 2 in an hour, and 9 more in HOURS 0, 12 and 24. */
  private static void windComesRound() {
    TalkKnots x = Due.told("mast 0 0 down; hitch 0 open 99");
    for (int place = 0; place < 12; place++) {
      x.wind(place, place == 0 ? 99 : 0);
    }
    int[] hours = {1, 2, 12, 13, 24, 25};
    int[] want = {88, 86, 66, 55, 33, 22};
    for (int i = 0; i < hours.length; i++) {
      due.is("OPEN ON " + hours[i] + " HOURS", x.on(0, hours[i], 0), want[i]);
    }
  }

  // "WIND: 12 numbers (0 to 99; of place i at first the rest of 7 times i by 30)"
  private static void windAtFirst() {
    TalkKnots x = new TalkKnots();
    int[] want = {0, 7, 14, 21, 28, 5, 12, 19, 26, 3, 10, 17};
    for (int place = 0; place < 12; place++) {
      due.is("WIND of " + place, x.wind(place, 99), want[place]);
      due.is("the greatest of " + place, x.wind(place, 0), 99);
      due.is("the least of " + place, x.wind(place, 1), 0);
    }
  }

  // "MASTS 0 to 3, each with WEIGHT (0 to 999; 100 at first), UP (1) or fallen (0; UP at first)"
  private static void mastsAtFirst() {
    TalkKnots x = new TalkKnots();
    for (int mast = 0; mast < 4; mast++) {
      due.is("UP at first", x.mastOf(mast, 1), 1);
      due.is("none FAST: no STRAIN", x.mastOf(mast, 4), 0);
      due.is("WEIGHT at first", x.weight(mast, 999), 100);
      due.is("the greatest WEIGHT", x.weight(mast, 0), 999);
      due.is("the least WEIGHT", x.weight(mast, 5), 0);
    }
    due.is("all UP", x.now(3), 15);
  }

  // "KNOTS 0, 1, .. (at most 10)"
  private static void atMostTenKnots() {
    TalkKnots x = new TalkKnots();
    for (int k = 0; k < 9; k++) {
      x.knot(0, 0);
    }
    due.is("the tenth", x.knot(0, 0), 9);
    due.is("an 11th", x.knot(0, 0), Due.FULL);
    due.is("ten", x.count(0), 10);
    x.cast(0);
    due.is("one that is cast off is there all the same", x.knot(0, 0), Due.FULL);
    x = new TalkKnots();
    x.image();
    for (int k = 0; k < 10; k++) {
      x.knot(0, 0);
    }
    x.undo();
    due.is("those that undo takes away are there no more", x.knot(0, 0), 0);
  }

  // "OPEN (.. 50 at first), FAST (.. FAST at first), AGE (.. 0 at first ..)"
  private static void knotAtFirst() {
    for (int kind = 0; kind < 6; kind++) {
      for (int mast = 0; mast < 4; mast++) {
        TalkKnots x = new TalkKnots();
        x.hours(100);
        due.is("its number", x.knot(kind, mast), 0);
        int[] want = {kind, mast, 50, 1, 0};
        for (int what = 0; what < 5; what++) {
          due.is("at first: of(0, " + what + ")", x.of(0, what), want[what]);
        }
      }
    }
  }

  // "AGE (.. held to 9999)"
  private static void ageIsHeld() {
    TalkKnots x = one(1, 95, 9950, 0);
    due.is("ON 48 HOURS", x.on(0, 48, 2), 9998);
    due.is("ON 49 HOURS", x.on(0, 49, 2), 9999);
    due.is("ON 50 HOURS", x.on(0, 50, 2), 9999);
    due.is("ON 200 HOURS", x.on(0, 200, 2), 9999);
    x.hours(100);
    due.is("when they have gone", x.of(0, 4), 9999);
    due.is("all AGES together", x.count(3), 9999);
  }

  // "AGE (hours that it was FAST ..)"
  private static void ageIsOfHoursThatItWasFast() {
    TalkKnots x = one(1, 95, 0, 0);
    x.hours(3);
    due.is("cast tells it", x.cast(0), 3);
    x.hours(4);
    due.is("no older when loose", x.of(0, 4), 3);
    x.tie(0);
    due.is("0 when tied again", x.of(0, 4), 0);
    x.hours(2);
    due.is("and on from there", x.of(0, 4), 2);
    // It gives way in the very first hour, so it was FAST in none.
    x = one(0, 49, 0, 0);
    x.hours(1);
    due.is("none of the hour in which it gives way", x.of(0, 4), 0);
  }

  // "HOLDS (in a wind w): .."
  private static int holdsDue(int kind, int open, int wind) {
    switch (kind) {
      case 0: return 2 * open;
      case 1: return open < 60 ? 2 * open : 3 * open;
      case 2: return 2 * open < wind ? 0 : 2 * open - wind;
      case 3: return 99 - open;
      case 4: return open < 60 ? 2 * open : 3 * open;
      default: return 2 * open - wind < 60 ? 60 : 2 * open - wind;
    }
  }

  private static void holds(int kind) {
    for (int wind : WINDS) {
      TalkKnots x = one(kind, 0, 0, wind);
      for (int open = 0; open < 100; open++) {
        x.set(0, 2, open);
        String told = "HOLDS of kind " + kind + " OPEN " + open + " in " + wind;
        due.is(told, x.of(0, 5), holdsDue(kind, open, wind));
        due.is(told + ", by its MAST", x.mastOf(0, 5), holdsDue(kind, open, wind));
      }
    }
  }

  // "SETTLES (OPEN less in an hour, in a wind w): .."
  private static int settlesDue(int kind, int open, int age, int wind) {
    switch (kind) {
      case 0: return 2;
      case 1: return open < 60 ? 2 : 0;
      case 2: return 2 + wind / 10;
      case 3: return -1;
      case 4: return open < 60 ? 1 : 0;
      default: return age < 6 ? 0 : 2 + wind / 10;
    }
  }

  private static int held(int open) {
    return open < 0 ? 0 : open > 99 ? 99 : open;
  }

  private static void settles(int kind) {
    for (int age : AGES) {
      for (int wind : WINDS) {
        TalkKnots x = one(kind, 0, age, wind);
        // On a MAST that fell it settles all the same, and nothing gives way.
        Due.yard(x, "mast 0 0 down");
        for (int open = 0; open < 100; open++) {
          x.set(0, 2, open);
          String told = "SETTLES of kind " + kind + " OPEN " + open + " AGE " + age + " in " + wind;
          int less = settlesDue(kind, open, age, wind);
          due.is(told, x.of(0, 6), 100 + less);
          due.is(told + ", 0 to 99 held", x.on(0, 1, 0), held(open - less));
        }
      }
    }
  }

  // "TEASED (OPEN more when one teases): .."
  private static int teasedDue(int kind, int open) {
    int[] more = {15, 30, 10, -20, 30, 10};
    return kind == 5 && open >= 90 ? 0 : more[kind];
  }

  private static void teased(int kind) {
    TalkKnots x = one(kind, 0, 0, 77);
    for (int open = 0; open < 100; open++) {
      x.set(0, 2, open);
      due.is("TEASED of kind " + kind + " OPEN " + open, x.of(0, 7), 100 + teasedDue(kind, open));
    }
  }

  // "TO TEASE a KNOT: OPEN is what TEASED tells more (0 to 99 held), FAST or not."
  private static void teaseIsHeld(int kind) {
    for (int loose = 0; loose < 2; loose++) {
      TalkKnots x = one(kind, 0, 7, 0);
      if (loose == 1) {
        x.cast(0);
      }
      for (int open = 0; open < 100; open++) {
        x.set(0, 2, open);
        due.is("tease of kind " + kind + " OPEN " + open, x.tease(0),
            held(open + teasedDue(kind, open)));
      }
      due.is("FAST as it was", x.of(0, 3), 1 - loose);
      due.is("AGE as it was", x.of(0, 4), 7);
    }
  }

  // "GIVES (whether it gives way under a STRAIN s in an hour): .."
  private static boolean givesDue(int kind, int open, int age, int strain, int holds) {
    boolean more = strain > holds;
    switch (kind) {
      case 1:
      case 4: return more && open < 90;
      case 3: return more || open == 99;
      case 5: return more && age >= 3;
      default: return more;
    }
  }

  private static void gives(int kind) {
    int[] opens = {0, 1, 29, 30, 31, 49, 50, 58, 59, 60, 61, 88, 89, 90, 91, 97, 98, 99};
    for (int open : opens) {
      for (int age : AGES) {
        for (int wind : new int[] {0, 10, 33}) {
          givesAbout(kind, open, age, wind);
        }
      }
    }
  }

  /** The STRAIN is just what it HOLDS, 1 more, 1 less, and as great as can be. */
  private static void givesAbout(int kind, int open, int age, int wind) {
    int holds = holdsDue(kind, open, wind);
    int just = holds - 3 * wind;
    TalkKnots x = one(kind, open, age, wind);
    for (int weight : new int[] {just - 1, just, just + 1, 0, 999}) {
      if (weight >= 0) {
        x.weight(0, weight);
        boolean want = givesDue(kind, open, age, weight + 3 * wind, holds);
        String told = "kind " + kind + " OPEN " + open + " AGE " + age + " under " + weight + " in "
            + wind;
        due.is(told + " GIVES", x.of(0, 8), want ? 1 : 0);
        due.is(told + " in an hour", x.on(0, 1, 1), want ? 0 : 1);
      }
    }
  }

  // "HAWSER: as SPLICE, and 10 for each other KNOT of its MAST that is FAST."
  private static void hawserCountsOthers() {
    TalkKnots x = new TalkKnots();
    x.knot(4, 2);
    due.is("none: only itself", x.of(0, 5), 100);
    for (int k = 1; k < 10; k++) {
      x.knot(k % 6, 2);
      due.is(k + " others", x.of(0, 5), 100 + 10 * k);
    }
    x.set(0, 2, 60);
    due.is("nine others, OPEN 60", x.of(0, 5), 270);
    for (int k = 1; k < 10; k++) {
      if (k % 2 == 0) {
        x.cast(k);
      } else {
        x.set(k, 1, 3);
      }
      due.is("one less: loose, or another MAST's", x.of(0, 5), 270 - 10 * k);
    }
    // Its GIVES goes by all that: 180 and 10 under (382) / 2 = 191.
    x = Due.told("wind 0 0; mast 0 380; hawser 0 open 60; splice 0 open 99");
    due.is("held with the other", x.of(0, 8), 0);
    x.weight(0, 382);
    due.is("not held", x.of(0, 8), 1);
  }

  // "(0, if it isn't FAST.)"
  private static void looseOnesHoldNothing() {
    for (int kind = 0; kind < 6; kind++) {
      for (int open : new int[] {0, 59, 60, 90, 99}) {
        TalkKnots x = one(kind, open, 9, 0);
        x.knot(0, 0);
        x.cast(0);
        due.is("a loose one of kind " + kind + " HOLDS", x.of(0, 5), 0);
        due.is("its MAST's others alone", x.mastOf(0, 5), 100);
        due.is("it GIVES way no more", x.of(0, 8), 0);
        x.tie(0);
        due.is("FAST again", x.of(0, 5), holdsDue(kind, open, 0) + (kind == 4 ? 10 : 0));
      }
    }
  }

  // "STRAIN of a MAST's KNOTS: its WEIGHT and 3 times the WIND, divided by how many .. are FAST"
  private static void strain() {
    TalkKnots x = new TalkKnots();
    x.wind(0, 99);
    x.weight(1, 999);
    x.knot(0, 0);
    due.is("none of its own", x.mastOf(1, 4), 0);
    x.knot(0, 1);
    due.is("the greatest", x.mastOf(1, 4), 1296);
    x.knot(0, 1);
    x.cast(2);
    due.is("a loose one has none of it", x.mastOf(1, 4), 1296);
    x.tie(2);
    due.is("two", x.mastOf(1, 4), 648);
    for (int k = 3; k < 10; k++) {
      x.knot(0, 1);
    }
    due.is("nine", x.mastOf(1, 4), 144);
    x.set(0, 1, 1);
    due.is("ten, cut", x.mastOf(1, 4), 129);
    for (int k = 0; k < 10; k++) {
      x.cast(k);
    }
    due.is("none that is FAST", x.mastOf(1, 4), 0);
    x.wind(0, 0);
    x.weight(1, 0);
    x.tie(0);
    due.is("the least", x.mastOf(1, 4), 0);
  }
}
