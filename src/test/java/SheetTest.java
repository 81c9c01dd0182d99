/** Promises 30 to 35: sheets. */
public final class SheetTest {
  private static final Due due = new Due();

  public static void main(String[] args) {
    sheet();
    write();
    copy();
    copyWrong();
    lays();
    book();
    read();
    due.end();
  }

  private static void sheet() {
    TalkKnots x = new TalkKnots();
    due.is("sheet(3, 8, 40)", x.sheet(3, 8, 40), 40);
    due.is("sheet(0, 16, 0)", x.sheet(0, 16, 0), 0);
    due.is("sheet(1, 64, 1)", x.sheet(1, 64, 1), 1);
    due.is("sheet(-1, 8, 1)", x.sheet(-1, 8, 1), Due.BEYOND);
    due.is("sheet(4, 8, -1)", x.sheet(4, 8, -1), Due.BEYOND);
    due.is("sheet(0, 32, -1)", x.sheet(0, 32, -1), Due.BEYOND);
    due.is("sheet(0, -8, 1)", x.sheet(0, -8, 1), Due.BEYOND);
    due.is("sheet(0, 8, -1)", x.sheet(0, 8, -1), Due.SIZE);
    due.is("sheet(0, 8, 41)", x.sheet(0, 8, 41), Due.BEYOND);
    due.is("sheet(1, 0, -1)", x.sheet(1, 0, -1), Due.SIZE);
    due.is("sheet(1, 0, 41)", x.sheet(1, 0, 41), Due.BEYOND);
    due.is("still there", x.write(1, 0, 5), 0);
    due.is("all 0 anew", x.sheet(1, 64, 2), 2);
    due.is("all 0 anew: number 0", x.write(1, 0, 5), 0);
    due.is("sheet(1, 0, 40)", x.sheet(1, 0, 40), 0);
    due.is("missing then", x.write(1, 0, 5), Due.MISSING);
    due.is("sheet(1, 0, 0)", x.sheet(1, 0, 0), 0);
    due.is("status(6)", x.status(6), 2);
  }

  private static void write() {
    TalkKnots x = new TalkKnots();
    x.sheet(0, 8, 2);
    x.sheet(1, 16, 2);
    x.sheet(2, 64, 2);
    long[][] rows = {
      // v, and what it is in 8, 16 and 64 bits
      {127, 127, 127, 127}, {128, -128, 128, 128}, {-1, -1, -1, -1}, {256, 0, 256, 256},
      {32768, 0, -32768, 32768}, {65537, 1, 1, 65537},
      {Long.MIN_VALUE, 0, 0, Long.MIN_VALUE}, {Long.MAX_VALUE, -1, -1, Long.MAX_VALUE},
    };
    for (long[] row : rows) {
      for (int s = 0; s < 3; s++) {
        x.write(s, 1, row[0]);
        due.is("write of " + row[0] + " to sheet " + s, x.write(s, 1, 0), row[1 + s]);
      }
    }
    due.is("the other number", x.write(2, 0, 1), 0);
    due.is("write(0, 2, 0)", x.write(0, 2, 0), Due.BEYOND);
    due.is("write(0, -1, 0)", x.write(0, -1, 0), Due.BEYOND);
    due.is("write(3, 0, 0)", x.write(3, 0, 0), Due.MISSING);
    due.is("write(3, -1, 0)", x.write(3, -1, 0), Due.MISSING);
    due.is("write(4, 0, 0)", x.write(4, 0, 0), Due.BEYOND);
    due.is("write(-1, 0, 0)", x.write(-1, 0, 0), Due.BEYOND);
    x.sheet(3, 8, 0);
    due.is("write to a sheet of none", x.write(3, 0, 0), Due.BEYOND);
    due.is("status(0)", x.status(0), 5);
    due.is("status(5)", x.status(5), 2);
  }

  private static TalkKnots numbered() {
    TalkKnots x = new TalkKnots();
    x.sheet(0, 8, 6);
    x.sheet(1, 8, 4);
    for (int i = 0; i < 6; i++) {
      x.write(0, i, 10 + i);
    }
    return x;
  }

  private static void row(String what, TalkKnots x, int s, int... want) {
    for (int i = 0; i < want.length; i++) {
      due.is(what + ": number " + i, x.write(s, i, 0), want[i]);
    }
  }

  private static void copy() {
    TalkKnots x = numbered();
    due.is("copy to another", x.copy(0, 2, 1, 1, 3), 3);
    row("copy to another", x, 1, 0, 12, 13, 14);
    row("copied from", x, 0, 10, 11, 12, 13, 14, 15);
    x = numbered();
    due.is("copy upwards", x.copy(0, 0, 0, 2, 4), 4);
    row("copy upwards", x, 0, 10, 11, 10, 11, 12, 13);
    x = numbered();
    due.is("copy downwards", x.copy(0, 2, 0, 0, 4), 4);
    row("copy downwards", x, 0, 12, 13, 14, 15, 14, 15);
    x = numbered();
    due.is("copy of none at the ends", x.copy(0, 6, 1, 4, 0), 0);
    due.is("copy of all", x.copy(1, 0, 0, 2, 4), 4);
    row("copy of all", x, 0, 10, 11, 0, 0, 0, 0);
  }

  private static void copyWrong() {
    TalkKnots x = numbered();
    x.sheet(2, 16, 6);
    int[][] rows = {
      {-1, 0, 0, 0, 0, Due.BEYOND}, {0, 0, 4, 0, 0, Due.BEYOND}, {4, 0, 3, 0, 0, Due.BEYOND},
      {3, 0, 0, 0, 0, Due.MISSING}, {0, 0, 3, 0, 0, Due.MISSING}, {3, -1, 3, -1, -1, Due.MISSING},
      {2, 0, 3, 0, 0, Due.MISSING},
      {0, 0, 2, 0, 1, Due.KIND}, {2, 0, 1, 0, 0, Due.KIND}, {0, -1, 2, 0, 99, Due.KIND},
      {0, -1, 1, 0, 1, Due.BEYOND}, {0, 0, 1, -1, 1, Due.BEYOND}, {0, 0, 1, 0, -1, Due.BEYOND},
      {0, 3, 1, 0, 4, Due.BEYOND}, {0, 0, 1, 1, 4, Due.BEYOND}, {0, 0, 1, 0, 5, Due.BEYOND},
      {0, 7, 1, 0, 0, Due.BEYOND}, {0, 0, 1, 5, 0, Due.BEYOND},
      {0, Integer.MAX_VALUE, 1, 0, Integer.MAX_VALUE, Due.BEYOND},
      {0, 1, 0, 1, Integer.MAX_VALUE, Due.BEYOND},
      {0, Integer.MIN_VALUE, 0, 0, Integer.MIN_VALUE, Due.BEYOND},
    };
    for (int[] r : rows) {
      due.is("copy(" + r[0] + ", " + r[1] + ", " + r[2] + ", " + r[3] + ", " + r[4] + ")",
          x.copy(r[0], r[1], r[2], r[3], r[4]), r[5]);
    }
    row("nothing changed", x, 1, 0, 0, 0, 0);
    row("nothing changed", x, 0, 10, 11, 12, 13, 14, 15);
  }

  private static void lays() {
    TalkKnots x = new TalkKnots();
    x.sheet(0, 64, 14);
    long[] numbers = {99, 100, -1, 0, 50, 1L << 32, 5, 6, 7, 8, 9, 11, 12, 13};
    for (int i = 0; i < numbers.length; i++) {
      x.write(0, i, numbers[i]);
    }
    due.is("lays(0)", x.lays(0), 9);
    int[] want = {99, 7, 14, 0, 50, 5, 5, 6, 7, 8, 9, 11};
    for (int place = 0; place < 12; place++) {
      due.is("wind of " + place, x.wind(place, 0), want[place]);
    }
    x.sheet(1, 8, 2);
    x.write(1, 0, 200);
    due.is("lays of a short one", x.lays(1), 1);
    x.sheet(1, 8, 0);
    due.is("lays of none", x.lays(1), 0);
    due.is("lays(2)", x.lays(2), Due.MISSING);
    due.is("lays(4)", x.lays(4), Due.BEYOND);
    due.is("lays(-1)", x.lays(-1), Due.BEYOND);
  }

  private static void book() {
    TalkKnots x = Due.told("knot 0 open 90; fool 1 open 20");
    x.sheet(0, 16, 5);
    due.is("book(0, 0)", x.book(0, 0), 5);
    row("book of the first", x, 0, 90, 88, 86, 84, 82);
    due.is("book(0, 1)", x.book(0, 1), 5);
    // 79 under 100: it gives way at once.
    row("book of the second", x, 0, 20, 20, 20, 20, 20);
    due.is("book(0, 0) again", x.book(0, 0), 5);
    row("book of the first again", x, 0, 90, 88, 86, 84, 82);
    due.is("nothing changed: hour", x.now(0), 0);
    due.is("nothing changed: open", x.of(0, 2), 90);
    due.is("book(1, 0)", x.book(1, 0), Due.MISSING);
    due.is("book(1, 9)", x.book(1, 9), Due.MISSING);
    due.is("book(4, 0)", x.book(4, 0), Due.BEYOND);
    due.is("book(-1, 0)", x.book(-1, 0), Due.BEYOND);
    due.is("book(0, 2)", x.book(0, 2), Due.BEYOND);
    due.is("book(0, -1)", x.book(0, -1), Due.BEYOND);
    x.sheet(2, 8, 0);
    due.is("book to a sheet of none", x.book(2, 0), 0);
    x.sheet(2, 8, 40);
    due.is("book to a sheet of 40", x.book(2, 0), 40);
  }

  private static void read() {
    TalkKnots x = Due.told("wind 0 0; mast 0 0; knot 0 open 50; knot 0 open 50");
    x.sheet(0, 8, 2);
    x.book(0, 0);
    // 50, 48: a KNOT, a SPLICE and a HITCH; a FOOL has 51, a HAWSER 49, a VOW 50.
    due.is("read(0, 0)", x.read(0, 0), 3);
    x.write(0, 1, 51);
    due.is("as a fool's", x.read(0, 0), 1);
    x.write(0, 1, 49);
    due.is("as a hawser's", x.read(0, 0), 1);
    x.write(0, 1, 50);
    due.is("as a vow's", x.read(0, 0), 1);
    x.write(0, 1, 47);
    due.is("as none's", x.read(0, 0), 0);
    x.write(0, 0, 100);
    due.is("no such open", x.read(0, 0), 0);
    x.write(0, 0, -1);
    due.is("no such open, below", x.read(0, 0), 0);
    due.is("nothing changed: open", x.of(0, 2), 50);
    due.is("nothing changed: kind", x.of(0, 0), 0);
    x.sheet(1, 64, 1);
    x.write(1, 0, 99);
    due.is("one number: each kind", x.read(1, 1), 6);
    x.write(1, 0, (1L << 32) + 50);
    due.is("a long number", x.read(1, 1), 0);
    x.sheet(1, 64, 0);
    due.is("none: all pairs", x.read(1, 1), 600);
    due.is("read(2, 0)", x.read(2, 0), Due.MISSING);
    due.is("read(2, 9)", x.read(2, 9), Due.MISSING);
    due.is("read(4, 0)", x.read(4, 0), Due.BEYOND);
    due.is("read(-1, 0)", x.read(-1, 0), Due.BEYOND);
    due.is("read(0, 2)", x.read(0, 2), Due.BEYOND);
    due.is("read(0, -1)", x.read(0, -1), Due.BEYOND);
    x = Due.told("mast 0 100; knot 0 open 30 loose");
    x.sheet(0, 8, 40);
    x.book(0, 0);
    due.is("a loose one stays as it is", x.read(0, 0), 6);
  }
}
