/** Promises 15 to 19: the calls of hours. */
public final class HourTest {
  private static final Due due = new Due();

  public static void main(String[] args) {
    hours();
    lastHour();
    allGiveAtOnce();
    settlingAndAge();
    fallenMasts();
    on();
    then();
    falls();
    gives();
    due.end();
  }

  private static void hours() {
    TalkKnots x = Due.told("splice 2 open 95; knot 1 open 50");
    due.is("hours(0)", x.hours(0), Due.BEYOND);
    due.is("hours(-1)", x.hours(-1), Due.BEYOND);
    due.is("hours(101)", x.hours(101), Due.BEYOND);
    due.is("now(0)", x.now(0), 0);
    due.is("hours(1)", x.hours(1), 6);
    // 48 twice is 96, the STRAIN of hour 1 is 100 and 3 times 7.
    due.is("hours(1) again", x.hours(1), 4);
    due.is("hours(100)", x.hours(100), 4);
    due.is("now(0) then", x.now(0), 102);
    due.is("now(1) then", x.now(1), 6);
  }

  /** So late that the object's 512 calls are over: no run can ask for it, but STATE is there. */
  private static void lastHour() {
    TalkKnots x = Due.told("splice 0 open 95");
    for (int i = 0; i < 999; i++) {
      x.hours(100);
    }
    due.is("now(0)", x.now(0), 99900);
    due.is("hours(100) to 100000", x.hours(100), Due.STATE);
    due.is("hours(101)", x.hours(101), Due.BEYOND);
    due.is("hours(99) to 99999", x.hours(99), 1);
    due.is("hours(1) to 100000", x.hours(1), Due.STATE);
    due.is("now(0) then", x.now(0), 99999);
    due.is("on goes on", x.on(0, 200, 1), 1);
  }

  private static void allGiveAtOnce() {
    // Each has 150 / 2: the first gives way, and the second, with all of it, only an hour later.
    TalkKnots x = Due.told("wind 0 0; wind 1 0; mast 0 150; knot 0 open 37; knot 0 open 38");
    due.is("the strain as the hour finds it", x.then(1, 1), 2);
    due.is("the mast stands for an hour", x.then(1, 0), 1);
    due.is("the strain of the one left", x.then(2, 1), 0);
    due.is("the mast has fallen", x.falls(0), 2);
    // The hawser counts the other one, though that gives way in the same hour.
    x = Due.told("wind 0 0; mast 0 200; knot 0 open 10; hawser 0 open 45");
    due.is("a hawser's others as the hour finds them", x.then(1, 1), 2);
    due.is("holds less then", x.on(1, 2, 1), 0);
    x = Due.told("wind 0 0; mast 0 200; hawser 0 open 45; knot 0 open 10");
    due.is("the same by other numbers", x.then(1, 1), 1);
  }

  private static void settlingAndAge() {
    TalkKnots x = Due.told("wind 0 30; mast 0 0; knot 0 open 60; splice 0 open 61; hitch 0 open 60;"
        + "fool 0 open 2; hawser 0 open 59; vow 0 open 80; knot 0 open 80 loose; splice 0 open 99");
    x.hours(1);
    int[] open = {58, 61, 55, 3, 58, 80, 80, 99};
    for (int k = 0; k < open.length; k++) {
      due.is("open of " + k + " in an hour", x.of(k, 2), open[k]);
      due.is("age of " + k + " in an hour", x.of(k, 4), k == 6 ? 0 : 1);
    }
    x = Due.told("mast 0 0; wind 0 0; knot 0 open 1; splice 0 open 95; fool 0 open 98");
    x.set(0, 4, 9998);
    x.set(1, 4, 9999);
    x.hours(1);
    due.is("open is 0 at least", x.of(0, 2), 0);
    due.is("open is 99 at most", x.of(2, 2), 99);
    due.is("age 9999", x.of(0, 4), 9999);
    due.is("age held to 9999", x.of(1, 4), 9999);
    x = Due.told("wind 0 0; wind 1 0; wind 2 0; wind 3 0; wind 4 0; wind 5 0; wind 6 0; vow 0");
    for (int hour = 0; hour < 8; hour++) {
      due.is("a vow settles from its 6th hour on", x.on(0, hour, 0), hour < 7 ? 50 : 48);
    }
  }

  private static void fallenMasts() {
    TalkKnots x = Due.told("mast 1 999 down; knot 1 open 50; fool 1 open 99");
    due.is("a mast that fell stays so", x.hours(3), 0);
    due.is("its knots stay fast", x.now(4), 3);
    due.is("its knots settle", x.of(0, 2), 44);
    due.is("its knots age", x.of(0, 4), 3);
    due.is("raise(1)", x.raise(1), 1);
    due.is("then it falls again", x.hours(1), 0);
    due.is("its knots give way", x.now(4), 0);
  }

  private static void on() {
    TalkKnots x = Due.told("splice 0 open 59; fool 3 open 20; splice 3 open 95");
    due.is("on(0, 0, 0)", x.on(0, 0, 0), 59);
    due.is("on(0, 0, 1)", x.on(0, 0, 1), 1);
    due.is("on(0, 1, 0)", x.on(0, 1, 0), 57);
    // 114 is below the 121 of hour 1.
    due.is("on(0, 1, 1)", x.on(0, 1, 1), 1);
    due.is("on(0, 2, 1)", x.on(0, 2, 1), 0);
    due.is("on(0, 2, 0)", x.on(0, 2, 0), 57);
    due.is("on(0, 200, 2)", x.on(0, 200, 2), 1);
    due.is("on(2, 200, 2)", x.on(2, 200, 2), 200);
    int[][] wrong = {{3, 0, 0}, {-1, 0, 0}, {0, -1, 0}, {0, 201, 0}, {0, 0, 3}, {0, 0, -1}};
    for (int[] row : wrong) {
      due.is("a wrong on", x.on(row[0], row[1], row[2]), Due.BEYOND);
    }
    due.is("nothing changed: hour", x.now(0), 0);
    due.is("nothing changed: open", x.of(0, 2), 59);
    due.is("nothing changed: masts", x.now(3), 15);
  }

  private static void then() {
    TalkKnots x = Due.told("splice 0 open 59; splice 3 open 95");
    due.is("then(0, 0)", x.then(0, 0), 15);
    due.is("then(1, 0)", x.then(1, 0), 9);
    due.is("then(1, 1)", x.then(1, 1), 3);
    due.is("then(2, 0)", x.then(2, 0), 8);
    due.is("then(200, 1)", x.then(200, 1), 2);
    TalkKnots fallen = Due.told("mast 1 999 down; knot 1; splice 2 open 95; fool 1 loose");
    due.is("knots of a mast that fell are fast", fallen.then(0, 1), 3);
    due.is("and stay so", fallen.then(200, 1), 3);
    due.is("but the mast isn't up", fallen.then(200, 0), 4);
    due.is("then(201, 0)", x.then(201, 0), Due.BEYOND);
    due.is("then(-1, 0)", x.then(-1, 0), Due.BEYOND);
    due.is("then(0, 2)", x.then(0, 2), Due.BEYOND);
    due.is("then(0, -1)", x.then(0, -1), Due.BEYOND);
    due.is("nothing changed", x.now(3), 15);
  }

  private static void falls() {
    TalkKnots x = Due.told("splice 0 open 59; splice 3 open 95; mast 2 100 down");
    due.is("falls(0)", x.falls(0), 2);
    due.is("falls(1), which has no knot", x.falls(1), 1);
    due.is("falls(2), which fell", x.falls(2), 0);
    due.is("falls(3), which doesn't", x.falls(3), Due.NONE);
    due.is("falls(4)", x.falls(4), Due.BEYOND);
    due.is("falls(-1)", x.falls(-1), Due.BEYOND);
    due.is("status(3)", x.status(3), 1);
  }

  private static void gives() {
    TalkKnots x = Due.told("splice 0 open 59; splice 3 open 95; knot 3 loose");
    due.is("gives(0)", x.gives(0), 2);
    due.is("gives(1), which doesn't", x.gives(1), Due.NONE);
    due.is("gives(2), which is loose", x.gives(2), 0);
    due.is("gives(3)", x.gives(3), Due.BEYOND);
    due.is("gives(-1)", x.gives(-1), Due.BEYOND);
    givesLate();
  }

  private static void calmDown(TalkKnots x) {
    for (int place = 0; place < 12; place++) {
      x.wind(place, 0);
    }
  }

  /** A fool's knot under no strain at all gives way when it is open 99. */
  private static void givesLate() {
    TalkKnots x = Due.told("mast 0 0; knot 0 open 99; fool 0 open 0");
    calmDown(x);
    due.is("open 99 on 99 hours, and away an hour later", x.gives(1), 100);
    due.is("fast on 99 hours", x.on(1, 99, 1), 1);
    // A knot alone with a weight of 1: open 0 after 50 hours, and then it gives way.
    x = Due.told("mast 0 1; knot 0 open 99");
    calmDown(x);
    due.is("open 0 on 50 hours", x.on(0, 50, 0), 0);
    due.is("gives way then", x.gives(0), 51);
  }
}
