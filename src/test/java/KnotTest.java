/** Promises 7 to 14: the calls of knots. */
public final class KnotTest {
  private static final Due due = new Due();

  public static void main(String[] args) {
    knot();
    ofAtFirst();
    holds();
    settles();
    teased();
    gives();
    set();
    ofOneOfAFallenMast();
    turn();
    as();
    tease();
    tieAndCast();
    due.end();
  }

  private static void knot() {
    TalkKnots x = new TalkKnots();
    due.is("knot(-1, 0)", x.knot(-1, 0), Due.BEYOND);
    due.is("knot(6, 0)", x.knot(6, 0), Due.BEYOND);
    due.is("knot(0, -1)", x.knot(0, -1), Due.BEYOND);
    due.is("knot(0, 4)", x.knot(0, 4), Due.BEYOND);
    due.is("count(0)", x.count(0), 0);
    for (int k = 0; k < 10; k++) {
      due.is("knot " + k, x.knot(k % 6, k % 4), k);
    }
    due.is("an 11th", x.knot(0, 0), Due.FULL);
    due.is("an 11th of no kind", x.knot(6, 0), Due.BEYOND);
    due.is("an 11th of no mast", x.knot(0, 4), Due.BEYOND);
    due.is("count(0) of ten", x.count(0), 10);
    due.is("kind of the last", x.of(9, 0), 3);
    due.is("mast of the last", x.of(9, 1), 1);
  }

  private static void ofAtFirst() {
    TalkKnots x = new TalkKnots();
    due.is("of none", x.of(0, 0), Due.BEYOND);
    x.knot(2, 3);
    int[] want = {2, 3, 50, 1, 0, 100, 102, 110, 0};
    for (int what = 0; what < 9; what++) {
      due.is("of(0, " + what + ")", x.of(0, what), want[what]);
    }
    due.is("of(0, 9)", x.of(0, 9), Due.BEYOND);
    due.is("of(0, -1)", x.of(0, -1), Due.BEYOND);
    due.is("of(1, 0)", x.of(1, 0), Due.BEYOND);
    due.is("of(-1, 0)", x.of(-1, 0), Due.BEYOND);
  }

  /** A knot of a kind that is so far open and so old, in a wind. */
  private static TalkKnots one(int kind, int open, int age, int wind) {
    TalkKnots x = new TalkKnots();
    x.wind(0, wind);
    x.knot(kind, 0);
    x.set(0, 2, open);
    x.set(0, 4, age);
    return x;
  }

  private static void holds() {
    int[][] rows = {
      // kind, open, wind, holds
      {0, 0, 99, 0}, {0, 99, 99, 198},
      {1, 59, 0, 118}, {1, 60, 0, 180}, {1, 99, 50, 297},
      {2, 50, 30, 70}, {2, 10, 20, 0}, {2, 10, 21, 0}, {2, 10, 19, 1},
      {3, 0, 99, 99}, {3, 99, 0, 0}, {3, 50, 0, 49},
      {4, 59, 0, 118}, {4, 60, 0, 180},
      {5, 50, 40, 60}, {5, 50, 39, 61}, {5, 0, 99, 60}, {5, 99, 0, 198},
    };
    for (int[] row : rows) {
      TalkKnots x = one(row[0], row[1], 0, row[2]);
      due.is("holds of kind " + row[0] + " open " + row[1], x.of(0, 5), row[3]);
      x.cast(0);
      due.is("holds when loose", x.of(0, 5), 0);
    }
    TalkKnots x = Due.told("hawser 1; knot 1; fool 1; vow 1 loose; knot 2; hawser 1");
    due.is("a hawser with three others", x.of(0, 5), 130);
    due.is("another hawser", x.of(5, 5), 130);
    x.cast(1);
    due.is("a hawser with two others", x.of(0, 5), 120);
    x.set(4, 1, 1);
    due.is("a hawser with one that came", x.of(0, 5), 130);
    x.cast(0);
    due.is("a loose hawser", x.of(0, 5), 0);
    due.is("the other hawser then", x.of(5, 5), 120);
  }

  private static void settles() {
    int[][] rows = {
      // kind, open, age, wind, settles
      {0, 50, 0, 99, 2},
      {1, 59, 0, 99, 2}, {1, 60, 0, 99, 0},
      {2, 50, 0, 9, 2}, {2, 50, 0, 10, 3}, {2, 50, 0, 99, 11},
      {3, 50, 0, 99, -1},
      {4, 59, 0, 0, 1}, {4, 60, 0, 0, 0},
      {5, 50, 5, 99, 0}, {5, 50, 6, 99, 11}, {5, 50, 6, 10, 3}, {5, 50, 9999, 0, 2},
    };
    for (int[] row : rows) {
      TalkKnots x = one(row[0], row[1], row[2], row[3]);
      due.is("settles of kind " + row[0], x.of(0, 6), 100 + row[4]);
      x.cast(0);
      due.is("settles when loose of kind " + row[0], x.of(0, 6), 100 + row[4]);
    }
  }

  private static void teased() {
    int[][] rows = {
      // kind, open, teased
      {0, 50, 15}, {0, 99, 15}, {1, 50, 30}, {2, 50, 10}, {3, 50, -20}, {4, 50, 30},
      {5, 89, 10}, {5, 90, 0}, {5, 99, 0},
    };
    for (int[] row : rows) {
      due.is("teased of kind " + row[0], one(row[0], row[1], 0, 0).of(0, 7), 100 + row[2]);
    }
  }

  private static void gives() {
    int[][] rows = {
      // kind, open, age, weight, gives
      {0, 50, 0, 100, 0}, {0, 50, 0, 101, 1}, {0, 99, 0, 999, 1},
      {1, 89, 0, 267, 0}, {1, 89, 0, 268, 1}, {1, 90, 0, 999, 0},
      {2, 50, 0, 100, 0}, {2, 50, 0, 101, 1}, {2, 99, 0, 999, 1},
      {3, 50, 0, 49, 0}, {3, 50, 0, 50, 1}, {3, 98, 0, 1, 0}, {3, 99, 0, 0, 1},
      {4, 89, 0, 268, 1}, {4, 90, 0, 999, 0}, {4, 60, 0, 180, 0}, {4, 60, 0, 181, 1},
      {5, 10, 2, 999, 0}, {5, 10, 3, 60, 0}, {5, 10, 3, 61, 1}, {5, 90, 3, 999, 1},
    };
    for (int[] row : rows) {
      TalkKnots x = one(row[0], row[1], row[2], 0);
      x.weight(0, row[3]);
      String told = "gives of kind " + row[0] + " open " + row[1] + " under " + row[3];
      due.is(told, x.of(0, 8), row[4]);
      due.is(told + ", as the hour goes", x.on(0, 1, 1), 1 - row[4]);
      x.cast(0);
      due.is(told + ", loose", x.of(0, 8), 0);
    }
    TalkKnots x = one(0, 50, 0, 10);
    x.weight(0, 70);
    due.is("three times the wind, just held", x.of(0, 8), 0);
    x.weight(0, 71);
    due.is("three times the wind, not held", x.of(0, 8), 1);
    TalkKnots fallen = Due.told("mast 0 999 down; knot 0");
    due.is("gives way, by the strain of a mast that fell", fallen.of(0, 8), 1);
    due.is("but hours don't try it", fallen.on(0, 1, 1), 1);
  }

  private static void set() {
    TalkKnots x = Due.told("knot 1 open 7");
    due.is("set(0, 1, 3)", x.set(0, 1, 3), 1);
    due.is("set(0, 2, 99)", x.set(0, 2, 99), 7);
    due.is("set(0, 4, 9999)", x.set(0, 4, 9999), 0);
    int[][] wrong = {
      {1, 1, 0}, {-1, 1, 0}, {0, 0, 0}, {0, 3, 0}, {0, 5, 0}, {0, -1, 0},
      {0, 1, 4}, {0, 1, -1}, {0, 2, 100}, {0, 2, -1}, {0, 4, 10000}, {0, 4, -1},
    };
    for (int[] row : wrong) {
      due.is("a wrong set", x.set(row[0], row[1], row[2]), Due.BEYOND);
    }
    due.is("set(0, 1, 0)", x.set(0, 1, 0), 3);
    due.is("set(0, 2, 0)", x.set(0, 2, 0), 99);
    due.is("set(0, 4, 0)", x.set(0, 4, 0), 9999);
  }

  private static void ofOneOfAFallenMast() {
    TalkKnots x = Due.told("wind 0 20; mast 2 999 down; hitch 2 open 80; hawser 2 open 70;"
        + " vow 2 open 5 loose");
    int[] first = {2, 2, 80, 1, 0, 140, 104, 110, 1};
    int[] second = {4, 2, 70, 1, 0, 220, 100, 130, 1};
    int[] third = {5, 2, 5, 0, 0, 0, 100, 110, 0};
    for (int what = 0; what < 9; what++) {
      due.is("of one of a mast that fell: of(0, " + what + ")", x.of(0, what), first[what]);
      due.is("of one of a mast that fell: of(1, " + what + ")", x.of(1, what), second[what]);
      due.is("of a loose one of it: of(2, " + what + ")", x.of(2, what), third[what]);
    }
  }

  private static void turn() {
    TalkKnots x = Due.told("vow 1 open 7 loose");
    x.set(0, 4, 12);
    due.is("turn(0, 3)", x.turn(0, 3), 5);
    due.is("turn(0, 3) again", x.turn(0, 3), 3);
    int[] want = {3, 1, 7, 0, 12};
    for (int what = 0; what < 5; what++) {
      due.is("turned: of(0, " + what + ")", x.of(0, what), want[what]);
    }
    due.is("turn(0, 6)", x.turn(0, 6), Due.BEYOND);
    due.is("turn(0, -1)", x.turn(0, -1), Due.BEYOND);
    due.is("turn(1, 0)", x.turn(1, 0), Due.BEYOND);
    due.is("turn(-1, 0)", x.turn(-1, 0), Due.BEYOND);
  }

  private static void as() {
    boolean[][] isOf = {
      {true, false, false, false, false, false},
      {true, true, false, false, false, false},
      {true, false, true, false, false, false},
      {true, false, false, true, false, false},
      {true, true, false, false, true, false},
      {true, false, true, false, false, true},
    };
    TalkKnots x = new TalkKnots();
    for (int kind = 0; kind < 6; kind++) {
      x.knot(kind, 0);
      x.set(kind, 2, 10 + kind);
      for (int higher = 0; higher < 6; higher++) {
        due.is("as(" + kind + ", " + higher + ")", x.as(kind, higher),
            isOf[kind][higher] ? 10 + kind : Due.KIND);
      }
    }
    x.cast(4);
    due.is("as of one that is loose", x.as(4, 1), 14);
    due.is("as(0, 6)", x.as(0, 6), Due.BEYOND);
    due.is("as(0, -1)", x.as(0, -1), Due.BEYOND);
    due.is("as(6, 0)", x.as(6, 0), Due.BEYOND);
    due.is("as(-1, 0)", x.as(-1, 0), Due.BEYOND);
  }

  private static void tease() {
    int[][] rows = {
      // kind, open, open then
      {0, 50, 65}, {0, 84, 99}, {0, 85, 99}, {1, 50, 80}, {1, 80, 99}, {2, 50, 60},
      {3, 50, 30}, {3, 19, 0}, {4, 10, 40}, {5, 89, 99}, {5, 90, 90}, {5, 0, 10},
    };
    for (int[] row : rows) {
      TalkKnots x = one(row[0], row[1], 8, 0);
      due.is("tease of kind " + row[0] + " open " + row[1], x.tease(0), row[2]);
      due.is("open then", x.of(0, 2), row[2]);
      due.is("age then", x.of(0, 4), 8);
    }
    TalkKnots x = Due.told("knot 0 open 3 loose");
    due.is("tease of one that is loose", x.tease(0), 18);
    due.is("still loose", x.of(0, 3), 0);
    due.is("tease(1)", x.tease(1), Due.BEYOND);
    due.is("tease(-1)", x.tease(-1), Due.BEYOND);
  }

  private static void tieAndCast() {
    TalkKnots x = Due.told("splice 0 open 70");
    due.is("tie of one that is fast", x.tie(0), Due.STATE);
    due.is("hours(5)", x.hours(5), 1);
    due.is("cast(0)", x.cast(0), 5);
    due.is("fast then", x.of(0, 3), 0);
    due.is("age then", x.of(0, 4), 5);
    due.is("open then", x.of(0, 2), 70);
    due.is("cast(0) again", x.cast(0), Due.STATE);
    due.is("tie(0)", x.tie(0), 1);
    due.is("fast when tied", x.of(0, 3), 1);
    due.is("age when tied", x.of(0, 4), 0);
    due.is("tie(1)", x.tie(1), Due.BEYOND);
    due.is("tie(-1)", x.tie(-1), Due.BEYOND);
    due.is("cast(1)", x.cast(1), Due.BEYOND);
    due.is("cast(-1)", x.cast(-1), Due.BEYOND);
    due.is("status(4)", x.status(4), 2);
  }
}
