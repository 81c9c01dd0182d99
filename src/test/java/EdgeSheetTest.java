/** Section 3, and the edges of promises 30 to 35: sheets. */
public final class EdgeSheetTest {
  private static final Due due = new Due();

  public static void main(String[] args) {
    missingAtFirst();
    sheetIsMadeAnew();
    sheetsStandAlone();
    lowestBits();
    writeAtTheEnds();
    copyAsTheyAllWere();
    copyOfNone();
    copyToTheEnds();
    copyOfBits();
    laysEachNumber();
    laysOfSizes();
    laysOfBits();
    bookOfSizes();
    bookOfEnds();
    readOfSizes();
    readOfBounds();
    readOfKinds();
    readGoesOn();
    due.end();
  }

  private static TalkKnots calmly(String text) {
    TalkKnots x = Due.told(text);
    for (int place = 0; place < 12; place++) {
      x.wind(place, 0);
    }
    return x;
  }

  private static void write(TalkKnots x, int s, long... numbers) {
    for (int i = 0; i < numbers.length; i++) {
      x.write(s, i, numbers[i]);
    }
  }

  /** The numbers of a sheet, which are all there are; they are 0 then. */
  private static void row(String what, TalkKnots x, int s, long... want) {
    for (int i = 0; i < want.length; i++) {
      due.is(what + ": number " + i, x.write(s, i, 0), want[i]);
    }
    due.is(what + ": no more", x.write(s, want.length, 0), Due.BEYOND);
  }

  // "SHEETS 0 to 3 are rows of at most 40 numbers of 8, 16 or 64 bits, or MISSING (at first)."
  private static void missingAtFirst() {
    TalkKnots x = Due.told("knot 0");
    for (int s = 0; s < 4; s++) {
      due.is("write", x.write(s, 0, 1), Due.MISSING);
      due.is("copy", x.copy(s, 0, s, 0, 0), Due.MISSING);
      due.is("lays", x.lays(s), Due.MISSING);
      due.is("book", x.book(s, 0), Due.MISSING);
      due.is("read", x.read(s, 0), Due.MISSING);
    }
    due.is("status(5)", x.status(5), 20);
  }

  // Promise 30: "A sheet has n numbers, all 0, ..; bits 0: it is MISSING: n (0 if it is MISSING)"
  private static void sheetIsMadeAnew() {
    TalkKnots x = new TalkKnots();
    for (int bits : new int[] {8, 16, 64}) {
      due.is("40", x.sheet(2, bits, 40), 40);
      for (int i = 0; i < 40; i++) {
        due.is("all 0", x.write(2, i, -1), 0);
      }
    }
    due.is("fewer", x.sheet(2, 8, 3), 3);
    row("fewer", x, 2, 0, 0, 0);
    write(x, 2, 5, 6, 7);
    due.is("as many", x.sheet(2, 8, 3), 3);
    row("as many", x, 2, 0, 0, 0);
    write(x, 2, 5, 6, 7);
    due.is("more", x.sheet(2, 8, 5), 5);
    row("more", x, 2, 0, 0, 0, 0, 0);
    due.is("none at all", x.sheet(2, 64, 0), 0);
    row("none at all isn't MISSING", x, 2);
    due.is("MISSING, whatever n", x.sheet(2, 0, 40), 0);
    due.is("it is MISSING", x.write(2, 0, 0), Due.MISSING);
    due.is("MISSING again", x.sheet(2, 0, 0), 0);
    due.is("there again", x.sheet(2, 16, 1), 1);
    row("there again", x, 2, 0);
  }

  private static void sheetsStandAlone() {
    TalkKnots x = new TalkKnots();
    for (int s = 0; s < 4; s++) {
      x.sheet(s, 64, 40);
      for (int i = 0; i < 40; i++) {
        x.write(s, i, 100 * s + i);
      }
    }
    x.sheet(1, 0, 0);
    due.is("the first of 0", x.write(0, 0, 0), 0);
    due.is("the last of 0", x.write(0, 39, 0), 39);
    due.is("the first of 2", x.write(2, 0, 0), 200);
    due.is("the last of 3", x.write(3, 39, 0), 339);
    due.is("the other is MISSING", x.write(1, 0, 0), Due.MISSING);
  }

  // Promise 31: "becomes v (its lowest bits): what it was"
  private static void lowestBits() {
    TalkKnots x = new TalkKnots();
    x.sheet(0, 8, 1);
    x.sheet(1, 16, 1);
    x.sheet(2, 64, 1);
    long[][] rows = {
      // v, and what it is in 8, 16 and 64 bits
      {0, 0, 0, 0}, {127, 127, 127, 127}, {128, -128, 128, 128}, {255, -1, 255, 255},
      {256, 0, 256, 256}, {-128, -128, -128, -128}, {-129, 127, -129, -129},
      {32767, -1, 32767, 32767}, {32768, 0, -32768, 32768}, {65535, -1, -1, 65535},
      {65536, 0, 0, 65536}, {-32768, 0, -32768, -32768}, {-32769, -1, 32767, -32769},
      {Integer.MAX_VALUE, -1, -1, Integer.MAX_VALUE}, {1L << 31, 0, 0, 1L << 31},
      {1L << 32, 0, 0, 1L << 32}, {(1L << 32) + 77, 77, 77, (1L << 32) + 77},
      {Long.MAX_VALUE, -1, -1, Long.MAX_VALUE}, {Long.MIN_VALUE, 0, 0, Long.MIN_VALUE},
      {Long.MIN_VALUE + 99, 99, 99, Long.MIN_VALUE + 99}, {-1, -1, -1, -1},
    };
    for (long[] r : rows) {
      for (int s = 0; s < 3; s++) {
        due.is("what it was", x.write(s, 0, r[0]), 0);
        due.is(r[0] + " on sheet " + s, x.write(s, 0, 0), r[1 + s]);
      }
    }
  }

  private static void writeAtTheEnds() {
    for (int n : new int[] {1, 2, 39, 40}) {
      TalkKnots x = new TalkKnots();
      x.sheet(3, 16, n);
      due.is("the first of " + n, x.write(3, 0, 5), 0);
      due.is("the last of " + n, x.write(3, n - 1, 6), n == 1 ? 5 : 0);
      due.is("one behind it", x.write(3, n, 7), Due.BEYOND);
      due.is("one before", x.write(3, -1, 7), Due.BEYOND);
      due.is("the last is as it was", x.write(3, n - 1, 0), 6);
    }
    TalkKnots x = new TalkKnots();
    x.sheet(3, 16, 0);
    due.is("of none", x.write(3, 0, 5), Due.BEYOND);
  }

  private static TalkKnots numbered() {
    TalkKnots x = new TalkKnots();
    x.sheet(0, 8, 6);
    x.sheet(1, 8, 4);
    write(x, 0, 10, 11, 12, 13, 14, 15);
    write(x, 1, 20, 21, 22, 23);
    return x;
  }

  // Promise 32: "(as they all were)"
  private static void copyAsTheyAllWere() {
    for (int from = 0; from <= 6; from++) {
      for (int to = 0; to <= 6; to++) {
        for (int n = 0; n <= 7; n++) {
          TalkKnots x = numbered();
          boolean may = from + n <= 6 && to + n <= 6;
          String told = "copy(0, " + from + ", 0, " + to + ", " + n + ")";
          due.is(told, x.copy(0, from, 0, to, n), may ? n : Due.BEYOND);
          for (int i = 0; i < 6; i++) {
            boolean came = may && i >= to && i < to + n;
            due.is(told + ": number " + i, x.write(0, i, 0), 10 + (came ? i - to + from : i));
          }
        }
      }
    }
  }

  private static void copyOfNone() {
    TalkKnots x = numbered();
    x.sheet(2, 8, 0);
    x.sheet(3, 8, 0);
    due.is("none of none to none", x.copy(2, 0, 3, 0, 0), 0);
    due.is("none of none to itself", x.copy(2, 0, 2, 0, 0), 0);
    due.is("none to an end", x.copy(2, 0, 1, 4, 0), 0);
    due.is("none from an end", x.copy(0, 6, 2, 0, 0), 0);
    due.is("one of none", x.copy(2, 0, 0, 0, 1), Due.BEYOND);
    due.is("one to none", x.copy(0, 0, 2, 0, 1), Due.BEYOND);
    due.is("none from behind an end", x.copy(2, 1, 0, 0, 0), Due.BEYOND);
    due.is("none to behind an end", x.copy(0, 0, 2, 1, 0), Due.BEYOND);
    row("nothing came", x, 0, 10, 11, 12, 13, 14, 15);
    row("nor there", x, 1, 20, 21, 22, 23);
  }

  private static void copyToTheEnds() {
    TalkKnots x = numbered();
    due.is("all of the shorter", x.copy(1, 0, 0, 2, 4), 4);
    row("its end", x, 0, 10, 11, 20, 21, 22, 23);
    row("copied from", x, 1, 20, 21, 22, 23);
    x = numbered();
    due.is("one more than it has", x.copy(1, 0, 0, 0, 5), Due.BEYOND);
    due.is("one more than there is room for", x.copy(0, 0, 1, 0, 5), Due.BEYOND);
    due.is("as much as there is room for", x.copy(0, 2, 1, 0, 4), 4);
    row("all of it", x, 1, 12, 13, 14, 15);
    x = new TalkKnots();
    x.sheet(0, 64, 40);
    x.sheet(1, 64, 40);
    for (int i = 0; i < 40; i++) {
      x.write(0, i, 1000 + i);
    }
    due.is("40 of 40", x.copy(0, 0, 1, 0, 40), 40);
    due.is("the first", x.write(1, 0, 0), 1000);
    due.is("the last", x.write(1, 39, 0), 1039);
    due.is("41 of 40", x.copy(0, 0, 1, 0, 41), Due.BEYOND);
  }

  // "KIND: they are not of as many bits"
  private static void copyOfBits() {
    int[] bits = {8, 16, 64};
    for (int one : bits) {
      for (int other : bits) {
        TalkKnots x = new TalkKnots();
        x.sheet(0, one, 2);
        x.sheet(3, other, 2);
        write(x, 0, -1, 99);
        due.is(one + " to " + other, x.copy(0, 0, 3, 0, 2), one == other ? 2 : Due.KIND);
        due.is(one + " to " + other + ", none", x.copy(0, 0, 3, 0, 0), one == other ? 0 : Due.KIND);
        due.is("what came", x.write(3, 0, 0), one == other ? -1 : 0);
      }
    }
  }

  // Promise 33: "(those that aren't 0 to 99, or stand for none, are left out)"
  private static void laysEachNumber() {
    long[] numbers = {
      0, 1, 98, 99, 100, -1, 199, 1L << 32, (1L << 32) + 50, (1L << 63) + 50, Long.MAX_VALUE,
      Long.MIN_VALUE, -99, 256 + 50, 65536 + 50,
    };
    for (long v : numbers) {
      for (int place = 0; place < 12; place++) {
        TalkKnots x = new TalkKnots();
        x.sheet(0, 64, 12);
        for (int i = 0; i < 12; i++) {
          x.write(0, i, i == place ? v : -5);
        }
        boolean comes = v >= 0 && v <= 99;
        due.is(v + " for " + place, x.lays(0), comes ? 1 : 0);
        for (int i = 0; i < 12; i++) {
          due.is("WIND of " + i, x.wind(i, 0), comes && i == place ? v : 7 * i % 30);
        }
      }
    }
  }

  private static void laysOfSizes() {
    for (int n = 0; n <= 40; n++) {
      TalkKnots x = new TalkKnots();
      x.sheet(1, 8, n);
      for (int i = 0; i < n; i++) {
        x.write(1, i, 50 + i);
      }
      due.is(n + " numbers", x.lays(1), Math.min(n, 12));
      for (int i = 0; i < 12; i++) {
        due.is("WIND of " + i, x.wind(i, 0), i < n ? 50 + i : 7 * i % 30);
      }
      if (n > 0) {
        due.is("the sheet is as it was", x.write(1, n - 1, 0), 50 + n - 1);
      }
    }
  }

  private static void laysOfBits() {
    for (int bits : new int[] {8, 16, 64}) {
      TalkKnots x = new TalkKnots();
      x.sheet(0, bits, 4);
      write(x, 0, 99, 100, 200, 256 + 5);
      // 261 is 5 in 8 bits, and no WIND in 16 or 64.
      due.is("lays of " + bits + " bits", x.lays(0), bits == 8 ? 2 : 1);
      int[] want = {99, 7, 14, bits == 8 ? 5 : 21};
      for (int i = 0; i < 4; i++) {
        due.is("WIND of " + i, x.wind(i, 0), want[i]);
      }
    }
  }

  // Promise 34: "OPEN of one ON 0, 1, 2, .. HOURS comes to a sheet, as many as it has numbers"
  private static void bookOfSizes() {
    for (int bits : new int[] {8, 16, 64}) {
      for (int n = 0; n <= 40; n++) {
        TalkKnots x = calmly("mast 0 0; knot 0 open 99; fool 0 open 10");
        x.sheet(2, bits, n);
        due.is(n + " numbers", x.book(2, 0), n);
        for (int i = 0; i < n; i++) {
          due.is("ON " + i, x.write(2, i, -1), 99 - 2 * i);
        }
        due.is("no more", x.write(2, n, 0), Due.BEYOND);
        due.is("another's in its place", x.book(2, 1), n);
        for (int i = 0; i < n; i++) {
          due.is("ON " + i, x.write(2, i, -1), 10 + i);
        }
        due.is("HOUR as it was", x.now(0), 0);
        due.is("OPEN as it was", x.now(5), 109);
      }
    }
  }

  private static void bookOfEnds() {
    TalkKnots x = calmly("mast 0 0; knot 0 open 3; mast 1 0 down; fool 1 open 98; knot 2 loose");
    x.sheet(0, 8, 4);
    x.book(0, 0);
    row("held to 0", x, 0, 3, 1, 0, 0);
    x.book(0, 1);
    row("held to 99", x, 0, 98, 99, 99, 99);
    x.book(0, 2);
    row("a loose one", x, 0, 50, 50, 50, 50);
    // It HOLDS 100, 96 and then 92, under 95: it gives way in HOUR 2, and stays as OPEN as it was.
    x = calmly("mast 0 95; knot 0 open 50");
    x.sheet(0, 8, 5);
    x.book(0, 0);
    row("one that gives way", x, 0, 50, 48, 46, 46, 46);
  }

  // Promise 35: "how many pairs of a KIND of it and an OPEN (0 to 99) now make it just so"
  private static void readOfSizes() {
    TalkKnots x = calmly("mast 0 0; knot 0 open 50; knot 0");
    x.sheet(0, 8, 0);
    due.is("no numbers: all pairs", x.read(0, 0), 600);
    x.sheet(0, 8, 1);
    due.is("one number: a pair of each KIND", x.read(0, 0), 6);
    x.sheet(0, 8, 40);
    x.book(0, 0);
    due.is("40 numbers: KNOT, SPLICE and HITCH go alike in a calm", x.read(0, 0), 3);
    x.write(0, 39, 1);
    due.is("the last isn't so", x.read(0, 0), 0);
    due.is("KIND as it was", x.of(0, 0), 0);
    due.is("OPEN as it was", x.of(0, 2), 50);
    due.is("HOUR as it was", x.now(0), 0);
  }

  private static void readOfBounds() {
    TalkKnots x = calmly("mast 0 0; knot 0; knot 0");
    x.sheet(0, 64, 1);
    long[] numbers = {
      0, 99, -1, 100, 127, 255, 256, -256, 65536, 1L << 32, (1L << 32) + 50, Long.MIN_VALUE,
      Long.MIN_VALUE + 50, Long.MAX_VALUE,
    };
    for (long v : numbers) {
      x.write(0, 0, v);
      due.is("OPEN " + v, x.read(0, 0), v >= 0 && v <= 99 ? 6 : 0);
    }
    x.sheet(0, 64, 2);
    write(x, 0, 50, (1L << 32) + 48);
    due.is("a second that isn't OPEN", x.read(0, 0), 0);
    write(x, 0, 50, 48);
    due.is("a second that is", x.read(0, 0), 3);
    // 256 and 50 are 50 in 8 bits.
    x.sheet(1, 8, 1);
    x.write(1, 0, 256 + 50);
    due.is("in 8 bits", x.read(1, 0), 6);
  }

  private static void readOfKinds() {
    TalkKnots x = calmly("mast 0 0; splice 0 open 99; knot 0");
    x.sheet(0, 8, 2);
    long[][] rows = {
      // OPEN now and an hour on, and of how many KINDS
      {60, 60, 3}, {60, 58, 2}, {60, 61, 1}, {60, 59, 0}, {59, 57, 3}, {59, 58, 1}, {59, 59, 1},
      {59, 60, 1}, {99, 99, 4}, {99, 97, 2}, {98, 99, 1}, {0, 0, 5}, {0, 1, 1}, {1, 0, 4}, {1, 1, 1},
      {1, 2, 1}, {2, 0, 3}, {2, 1, 1}, {99, 0, 0}, {0, 99, 0},
    };
    for (long[] r : rows) {
      write(x, 0, r[0], r[1]);
      due.is("from " + r[0] + " to " + r[1], x.read(0, 1), r[2]);
    }
    // A loose one, and one of another MAST, are read by their own hours.
    x = calmly("knot 0 open 7 loose; splice 1 open 95");
    x.sheet(0, 8, 3);
    write(x, 0, 7, 7, 7);
    due.is("a loose one stays: all KINDS", x.read(0, 0), 6);
    write(x, 0, 7, 7, 6);
    due.is("and never settles", x.read(0, 0), 0);
    x = calmly("mast 0 0; knot 0 open 7 loose; knot 0");
    x.sheet(0, 8, 3);
    write(x, 0, 7, 7, 7);
    due.is("a loose one of a MAST without WEIGHT: all KINDS", x.read(0, 0), 6);
    due.is("a FAST one of it: the VOW", x.read(0, 1), 1);
    x.set(1, 4, 5);
    due.is("as old as a VOW may be: none", x.read(0, 1), 0);
  }

  /** What gives way stays as it is, so the reader tells a KNOT that does from one that doesn't. */
  private static void readGoesOn() {
    TalkKnots x = calmly("mast 0 95; knot 0 open 50");
    x.sheet(0, 8, 5);
    x.book(0, 0);
    // KNOT, SPLICE and HITCH go 50, 48, 46, 46, 46.
    due.is("as it went", x.read(0, 0), 3);
    write(x, 0, 50, 48, 46, 44, 42);
    due.is("as none went", x.read(0, 0), 0);
    x.weight(0, 0);
    due.is("with no WEIGHT", x.read(0, 0), 3);
    write(x, 0, 50, 50, 50, 50, 50);
    x.weight(0, 999);
    // All but the VOW, which stays for its AGE, give way at once; the VOW doesn't settle yet.
    due.is("at once", x.read(0, 0), 6);
    x.weight(0, 0);
    due.is("only the VOW", x.read(0, 0), 1);
  }
}
