/** How an hour goes, section 2 (ON), and the edges of promises 13 to 19. */
public final class EdgeHourTest {
  private static final Due due = new Due();

  public static void main(String[] args) {
    mastWithoutKnotsFalls();
    mastWhoseKnotsAreLooseFalls();
    mastFallsInTheHourInWhichTheLastGives();
    strainAsTheHourFindsIt();
    foundOutFirstAllAtOnce();
    masts();
    thoseThatGaveWayDontSettle();
    openIsHeld();
    ageCountsInTheHour();
    fallenStaysSo();
    raisedInTime();
    tieAndCast();
    hours();
    hourHasAnEnd();
    onChangesNothing();
    onAndHoursAgree();
    fallsFirst();
    fallsLate();
    givesFirst();
    due.end();
  }

  private static TalkKnots calm(String text) {
    TalkKnots x = Due.told(text);
    for (int place = 0; place < 12; place++) {
      x.wind(place, 0);
    }
    return x;
  }

  // "if no KNOT of it is FAST: it falls"
  private static void mastWithoutKnotsFalls() {
    TalkKnots x = new TalkKnots();
    due.is("all stand ON no HOUR", x.then(0, 0), 15);
    due.is("none stands ON one", x.then(1, 0), 0);
    due.is("hours(1)", x.hours(1), 0);
    x = calm("mast 2 0; knot 2");
    due.is("only the one with a KNOT stands", x.hours(1), 4);
    x = calm("mast 2 0");
    due.is("WEIGHT 0 falls, too", x.hours(1), 0);
  }

  private static void mastWhoseKnotsAreLooseFalls() {
    TalkKnots x = calm("knot 0 loose; vow 0 loose; splice 1 open 99; splice 1 open 99 loose");
    due.is("all of them loose: it falls", x.hours(1), 2);
    due.is("no AGE of those that are loose", x.count(3), 1);
  }

  // "if none is FAST then: it falls"
  private static void mastFallsInTheHourInWhichTheLastGives() {
    TalkKnots x = calm("mast 3 100; knot 3 open 50");
    due.is("100 under 100 is held", x.then(1, 0), 8);
    x.weight(3, 101);
    due.is("100 under 101 isn't", x.then(1, 0), 0);
    due.is("it falls in the same hour", x.falls(3), 1);
    due.is("as its KNOT gives way", x.gives(0), 1);
    x = calm("mast 3 200; knot 3 open 50; knot 3 open 50");
    due.is("two held", x.then(1, 1), 3);
    x.weight(3, 202);
    due.is("both give way", x.then(1, 1), 0);
    due.is("and the MAST falls with them", x.then(1, 0), 0);
    x.weight(3, 201);
    due.is("201 / 2 is cut: held", x.then(1, 0), 8);
  }

  // "by its STRAIN as the HOUR finds it"
  private static void strainAsTheHourFindsIt() {
    // 40 each: 0 gives way (38); 1 (40) doesn't, though alone it has 80; the next hour it does.
    TalkKnots x = calm("mast 0 80; knot 0 open 19; knot 0 open 20");
    due.is("one gives way", x.then(1, 1), 2);
    due.is("the other an hour later", x.then(2, 1), 0);
    due.is("then falls", x.falls(0), 2);
    // One tied or cast before the hour counts as the hour finds it.
    x.cast(0);
    due.is("80 for one", x.then(1, 1), 0);
    // The WIND of the HOUR, not of the next.
    x = calm("mast 0 0; knot 0 open 50");
    x.wind(1, 99);
    due.is("in HOUR 0 there is none", x.then(1, 1), 1);
    due.is("in HOUR 1 there is: 297", x.then(2, 1), 0);
  }

  // "(found out first, all at once)"
  private static void foundOutFirstAllAtOnce() {
    // 100 each; a HAWSER of 40 HOLDS 80 and 10 for each of two others, who give way with it there.
    TalkKnots x = calm("mast 0 300; hawser 0 open 40; knot 0 open 49; knot 0 open 49");
    due.is("the HAWSER had two others yet", x.then(1, 1), 1);
    x = calm("mast 0 300; knot 0 open 49; hawser 0 open 40; knot 0 open 49");
    due.is("in the midst of them", x.then(1, 1), 2);
    x = calm("mast 0 300; knot 0 open 49; knot 0 open 49; hawser 0 open 40");
    due.is("behind them", x.then(1, 1), 4);
    x = calm("mast 0 300; hawser 0 open 39; knot 0 open 49; knot 0 open 49");
    due.is("2 less are not enough", x.then(1, 1), 0);
    // Two HAWSERS hold one another and give way together.
    x = calm("mast 0 221; hawser 0 open 50; hawser 0 open 50");
    due.is("110 each under 110", x.then(1, 1), 3);
    x.weight(0, 222);
    due.is("110 each under 111", x.then(1, 1), 0);
  }

  // "for each MAST that is UP, by numbers"
  private static void masts() {
    TalkKnots x = calm("knot 0 open 50; knot 1 open 49; knot 2 open 50; knot 3 open 49");
    due.is("each by its own", x.hours(1), 5);
    due.is("KNOTS of each", x.now(4), 5);
    due.is("HOUR is 1 more, not 4", x.now(0), 1);
  }

  // "(2) KNOTS that are FAST: OPEN is what it SETTLES less, AGE 1 more."
  private static void thoseThatGaveWayDontSettle() {
    TalkKnots x = calm("mast 0 999; knot 0 open 49; fool 0 open 50; splice 0 open 95");
    x.hours(1);
    due.is("gave way: OPEN as it was", x.of(0, 2), 49);
    due.is("gave way: AGE as it was", x.of(0, 4), 0);
    due.is("a FOOL's, too", x.of(1, 2), 50);
    due.is("the one that holds ages", x.of(2, 4), 1);
    x.hours(5);
    due.is("nor later", x.of(0, 2), 49);
  }

  // "(0 to 99 held)"
  private static void openIsHeld() {
    for (int open = 0; open <= 4; open++) {
      TalkKnots x = calm("mast 0 0; knot 0; hawser 0; hitch 0; splice 0");
      for (int k = 0; k < 4; k++) {
        x.set(k, 2, open);
      }
      due.is("KNOT of " + open, x.on(0, 1, 0), Math.max(0, open - 2));
      due.is("HAWSER of " + open, x.on(1, 1, 0), Math.max(0, open - 1));
      due.is("HITCH of " + open, x.on(2, 1, 0), Math.max(0, open - 2));
      due.is("SPLICE of " + open, x.on(3, 1, 0), Math.max(0, open - 2));
      due.is("ON 200 HOURS", x.on(0, 200, 0), 0);
    }
    TalkKnots x = Due.told("mast 0 0 down; fool 0 open 97");
    int[] want = {97, 98, 99, 99, 99};
    for (int n = 0; n < 5; n++) {
      due.is("FOOL of 97 ON " + n, x.on(0, n, 0), want[n]);
    }
    due.is("and FAST, as its MAST fell", x.on(0, 200, 1), 1);
  }

  private static void ageCountsInTheHour() {
    // A VOW never gives way with an AGE below 3: in HOURS 0, 1 and 2.
    TalkKnots x = calm("mast 0 999; vow 0 open 50");
    due.is("FAST ON 3 HOURS", x.on(0, 3, 1), 1);
    due.is("not ON 4", x.on(0, 4, 1), 0);
    due.is("gives(0)", x.gives(0), 4);
    x.set(0, 4, 2);
    due.is("AGE 2: an hour more", x.gives(0), 2);
    x.set(0, 4, 3);
    due.is("AGE 3: at once", x.gives(0), 1);
    // It doesn't SETTLE with an AGE below 6: in HOURS 0 to 5.
    x = calm("mast 0 0; vow 0 open 50");
    due.is("ON 6 HOURS", x.on(0, 6, 0), 50);
    due.is("ON 7 HOURS", x.on(0, 7, 0), 48);
    x.set(0, 4, 5);
    due.is("AGE 5", x.on(0, 1, 0), 50);
    x.set(0, 4, 6);
    due.is("AGE 6", x.on(0, 1, 0), 48);
  }

  // "A MAST that fell stays so till it is raised; its KNOTS SETTLE all the same."
  private static void fallenStaysSo() {
    TalkKnots x = calm("mast 1 999 down; knot 1 open 50; fool 1 open 99; splice 1 open 99");
    due.is("with KNOTS that hold", x.hours(2), 0);
    due.is("its KNOTS aren't tried", x.now(4), 7);
    due.is("they SETTLE", x.of(0, 2), 46);
    due.is("they age", x.of(0, 4), 2);
    due.is("raise", x.raise(1), 1);
    due.is("then they are tried", x.hours(1), 2);
    due.is("and some give way", x.now(4), 4);
    x = calm("knot 0 loose");
    x.hours(1);
    x.tie(0);
    due.is("to tie a KNOT raises no MAST", x.now(3), 0);
    due.is("nor later", x.hours(1), 0);
    due.is("nor does WEIGHT 0", x.weight(0, 0), 100);
    due.is("as an hour shows", x.hours(1), 0);
  }

  private static void raisedInTime() {
    TalkKnots x = calm("knot 0 open 99; mast 0 0 down");
    due.is("raise(0)", x.raise(0), 1);
    due.is("it stands on", x.then(200, 0), 1);
    due.is("raise of one that stands", x.raise(0), 0);
    x = new TalkKnots();
    x.hours(1);
    due.is("raised without a KNOT", x.raise(3), 1);
    due.is("it stands till the hour goes", x.now(3), 8);
    due.is("and falls again", x.hours(1), 0);
    due.is("raised again", x.raise(3), 1);
  }

  // Promises 13 and 14, and "TO TIE it again: FAST, AGE 0."
  private static void tieAndCast() {
    TalkKnots x = calm("vow 2 open 77");
    x.set(0, 4, 9999);
    due.is("cast tells AGE", x.cast(0), 9999);
    due.is("AGE stays till it is tied", x.of(0, 4), 9999);
    due.is("tie", x.tie(0), 1);
    int[] want = {5, 2, 77, 1, 0};
    for (int what = 0; what < 5; what++) {
      due.is("tied: of(0, " + what + ")", x.of(0, what), want[what]);
    }
    due.is("cast of a new one", x.cast(0), 0);
    due.is("cast again", x.cast(0), Due.STATE);
    due.is("tie again", x.tie(0), 1);
    due.is("tie of one that is FAST", x.tie(0), Due.STATE);
    x = calm("mast 0 999; knot 0 open 9");
    x.hours(1);
    due.is("one that gave way is cast already", x.cast(0), Due.STATE);
    due.is("and may be tied", x.tie(0), 1);
  }

  // Promise 15: "n HOURS go (1 to 100)"
  private static void hours() {
    TalkKnots x = calm("splice 1 open 95");
    due.is("hours(1)", x.hours(1), 2);
    due.is("HOUR", x.now(0), 1);
    due.is("hours(100)", x.hours(100), 2);
    due.is("HOUR then", x.now(0), 101);
    due.is("AGE then", x.of(0, 4), 101);
    due.is("hours(0)", x.hours(0), Due.BEYOND);
    due.is("hours(101)", x.hours(101), Due.BEYOND);
    due.is("HOUR as it was", x.now(0), 101);
  }

  // "HOUR (99999 at most)", "STATE: HOUR would be above 99999."
  private static void hourHasAnEnd() {
    TalkKnots x = Due.told("splice 0 open 95");
    for (int i = 0; i < 999; i++) {
      x.hours(100);
    }
    due.is("99900", x.now(0), 99900);
    due.is("100 more: 100000", x.hours(100), Due.STATE);
    due.is("as it was", x.now(0), 99900);
    due.is("98 more", x.hours(98), 1);
    due.is("2 more: 100000", x.hours(2), Due.STATE);
    due.is("1 more: 99999", x.hours(1), 1);
    due.is("its place", x.now(1), 3);
    due.is("1 more: 100000", x.hours(1), Due.STATE);
    due.is("0 more is BEYOND", x.hours(0), Due.BEYOND);
    due.is("ON goes on behind it", x.on(0, 200, 2), 9999);
    due.is("99999", x.now(0), 99999);
    due.is("status(4)", x.status(4), 3);
  }

  // "ON: n HOURS go on with all as it is; nothing changes."
  private static void onChangesNothing() {
    String[] calls = {
      "on 0 200 0", "on 1 200 1", "on 0 1 2", "then 200 0", "then 1 1", "falls 0", "gives 0",
      "kind 0", "kind 1", "open 0 1", "bears 0 1", "bears 1 100", "move 0 100", "move 1 1",
      "calm 100", "calm 1", "firmest 0", "firmest 200", "mastOf 0 5", "now 5", "of 0 8", "as 0 0",
      "count 3", "status -1", "status 6", "read 0 0", "read 1 1",
    };
    for (String world : new String[] {"some", "full"}) {
      for (String call : calls) {
        String[] words = call.split(" ");
        TalkKnots x = Worlds.make(world);
        TalkKnots twin = Worlds.make(world);
        long answer = Calls.call(x, words[0], Calls.numbers(words, 1, words.length));
        if (answer > Due.BEYOND) {
          due.is(world + " " + call + ": no finding", x.status(-1), twin.status(-1));
        }
        String other = Seen.difference(Seen.all(x), Seen.all(twin));
        due.holds(world + " " + call + " changes nothing, but " + other, other == null);
      }
    }
  }

  /** What ON tells is what hours() then makes, an hour at a time and all at once. */
  private static void onAndHoursAgree() {
    for (String world : new String[] {"some", "full"}) {
      TalkKnots x = Worlds.make(world);
      TalkKnots step = Worlds.make(world);
      for (int n = 0; n <= 100; n++) {
        if (n > 0) {
          step.hours(1);
        }
        due.is("MASTS ON " + n, x.then(n, 0), step.now(3));
        due.is("KNOTS ON " + n, x.then(n, 1), step.now(4));
      }
      TalkKnots leap = Worlds.make(world);
      due.is("all at once", leap.hours(100), step.now(3));
      for (int k = 0; k < x.count(0); k++) {
        due.is("OPEN ON 100", x.on(k, 100, 0), step.of(k, 2));
        due.is("FAST ON 100", x.on(k, 100, 1), step.of(k, 3));
        due.is("AGE ON 100", x.on(k, 100, 2), step.of(k, 4));
        due.is("OPEN of the leap", leap.of(k, 2), step.of(k, 2));
      }
    }
  }

  // Promise 18: "In how many HOURS (0 to 200) ON a MAST has fallen first."
  private static void fallsFirst() {
    TalkKnots x = calm("mast 0 100 down; splice 0 open 99; mast 2 100; knot 2 open 51;"
        + " mast 3 0; knot 3 open 0");
    due.is("it has fallen", x.falls(0), 0);
    due.is("no KNOT", x.falls(1), 1);
    // 102 in the first hour, and 98 in the second.
    due.is("in the second hour", x.falls(2), 2);
    due.is("never: no STRAIN at all", x.falls(3), Due.NONE);
    x.weight(3, 1);
    due.is("at once", x.falls(3), 1);
  }

  /**
   * As late as it comes: a FOOL is OPEN 99 ON 99 HOURS and gives way in HOUR 99. Till then the 9
   * of the only windy place are 0 for each of ten; then 1 for each of nine, and the eight KNOTS,
   * which hold nothing by then, give way when the wind comes next, in HOUR 111; the HAWSER, with no
   * other, HOLDS nothing and gives way in HOUR 123.
   */
  private static TalkKnots lateFall() {
    TalkKnots x = calm("mast 0 0; fool 0 open 0; hawser 0 open 0");
    x.wind(3, 3);
    for (int k = 2; k < 10; k++) {
      x.knot(0, 0);
      x.set(k, 2, 0);
    }
    return x;
  }

  private static void fallsLate() {
    TalkKnots x = lateFall();
    due.is("the FOOL", x.gives(0), 100);
    due.is("a KNOT", x.gives(9), 112);
    due.is("the HAWSER", x.gives(1), 124);
    due.is("the MAST", x.falls(0), 124);
    due.is("it stands ON 123", x.then(123, 0), 1);
    due.is("but not ON 124", x.then(124, 0), 0);
    due.is("nor ON 200", x.then(200, 0), 0);
    due.is("nothing FAST ON 200", x.then(200, 1), 0);
    x.hours(100);
    due.is("from HOUR 100 on", x.falls(0), 24);
    x.hours(24);
    due.is("when it has fallen", x.falls(0), 0);
  }

  // Promise 19: "In how many HOURS (0 to 200) ON one isn't FAST first."
  private static void givesFirst() {
    TalkKnots x = calm("knot 0 loose; knot 1 open 51; splice 2 open 90; mast 3 999 down;"
        + " knot 3 open 0");
    due.is("a loose one", x.gives(0), 0);
    due.is("102, 98: in the second hour", x.gives(1), 2);
    due.is("a SPLICE of 90 never", x.gives(2), Due.NONE);
    due.is("one of a MAST that fell never", x.gives(3), Due.NONE);
    x.raise(3);
    due.is("at once when it is raised", x.gives(3), 1);
  }
}
