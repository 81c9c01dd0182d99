/**
 * The bounds of every argument: its least and its greatest are taken, what is one less, one more,
 * the least int and the greatest are BEYOND; whatever the other arguments are (within theirs).
 */
public final class BoundTest {
  private static final Due due = new Due();

  /** The world, the call, and for each argument its bounds, or the only number it is tried with. */
  private static final String[] ROWS = {
    "some wind 0..11 0..99", "some weight 0..3 0..999", "some raise 0..3", "some mastOf 0..3 0..5",
    "some now 0..5", "new knot 0..5 0..3", "some knot 0..5 0..3", "some of 0..2 0..8",
    "full of 0..9 0..8", "some set 0..2 1 0..3", "some set 0..2 2 0..99", "some set 0..2 4 0..9999",
    "full set 0..9 1 0..3", "some turn 0..2 0..5", "full turn 0..9 0..5", "some as 0..2 0..5",
    "full as 0..9 0..5", "some tease 0..2", "full tease 0..9", "some tie 0..2", "full tie 0..9",
    "some cast 0..2", "full cast 0..9", "some hours 1..100", "new hours 1..100",
    "some on 0..2 0..200 0..2", "full on 0..9 0..200 0..2", "some then 0..200 0..1",
    "some falls 0..3", "some gives 0..2", "full gives 0..9", "some best 0..3", "some kind 0..2",
    "full kind 0..9", "some open 0..2 0..100", "full open 0..9 0..100", "some bears 0..3 0..100",
    "some move 0..2 1..100", "full move 0..9 1..100", "some calm 1..100", "new calm 1..100",
    "some firmest 0..200", "new firmest 0..200", "some feed 32 1..4", "new feed -1 1..4",
    "some sheet 0..3 8 7", "some sheet 0..3 0 0", "some write 0..3 0 0", "some write 0 0..5 7",
    "some write 1 0..4 7", "some write 2 0..3 7", "some copy 0..3 0 0 0 1", "some copy 0 0 0..3 0 1",
    "some copy 0 0..6 2 0 0", "some copy 0 0 2 0..4 0", "some copy 0 0 2 0 0..4",
    "some copy 2 0 0 0..2 4", "some copy 0 0..2 2 0 4", "some copy 0 0 0 0 0..6",
    "some lays 0..3", "some book 0..3 0", "some book 0 0..2", "full book 0 0..9",
    "some read 0..3 0", "some read 0 0..2", "full read 0 0..9", "some count 0..3",
    "some status -1..6",
  };

  public static void main(String[] args) {
    for (String row : ROWS) {
      bounds(row.split(" "));
    }
    sizes();
    bits();
    whats();
    noKnots();
    due.end();
  }

  private static void bounds(String[] words) {
    for (int arg = 2; arg < words.length; arg++) {
      if (words[arg].contains("..")) {
        for (int others = 0; others < 2; others++) {
          oneArgument(words, arg, others);
        }
      }
    }
  }

  private static void oneArgument(String[] words, int arg, int others) {
    long least = end(words[arg], 0);
    long most = end(words[arg], 1);
    long[] taken = {least, most};
    long[] refused = {least - 1, most + 1, Integer.MIN_VALUE, Integer.MAX_VALUE};
    for (long v : taken) {
      due.holds(told(words, arg, v) + " is taken", answer(words, arg, others, v) != Due.BEYOND);
    }
    for (long v : refused) {
      due.is(told(words, arg, v), answer(words, arg, others, v), Due.BEYOND);
    }
  }

  private static long end(String bounds, int which) {
    String[] ends = bounds.split("\\.\\.");
    return Long.parseLong(ends[Math.min(which, ends.length - 1)]);
  }

  private static String told(String[] words, int arg, long v) {
    return String.join(" ", words) + " with " + v + " for argument " + (arg - 2);
  }

  private static long answer(String[] words, int arg, int others, long v) {
    long[] a = new long[words.length - 2];
    for (int i = 0; i < a.length; i++) {
      a[i] = i == arg - 2 ? v : end(words[i + 2], others);
    }
    return Calls.call(Worlds.make(words[0]), words[1], a);
  }

  /** How many numbers a sheet has: SIZE below 0, BEYOND above 40, also with bits 0. */
  private static void sizes() {
    for (int bits : new int[] {0, 8, 16, 64}) {
      for (int s = 0; s < 4; s++) {
        TalkKnots x = new TalkKnots();
        due.is("no number of " + bits + " bits", x.sheet(s, bits, 0), 0);
        due.is("one of " + bits + " bits", x.sheet(s, bits, 1), bits == 0 ? 0 : 1);
        due.is("40 of " + bits + " bits", x.sheet(s, bits, 40), bits == 0 ? 0 : 40);
        due.is("41 of " + bits + " bits", x.sheet(s, bits, 41), Due.BEYOND);
        due.is("the most of " + bits + " bits", x.sheet(s, bits, Integer.MAX_VALUE), Due.BEYOND);
        due.is("-1 of " + bits + " bits", x.sheet(s, bits, -1), Due.SIZE);
        due.is("the least of " + bits + " bits", x.sheet(s, bits, Integer.MIN_VALUE), Due.SIZE);
        due.is("the last of 40", x.write(s, 39, 1), bits == 0 ? Due.MISSING : 0);
        due.is("the one behind it", x.write(s, 40, 1), bits == 0 ? Due.MISSING : Due.BEYOND);
      }
    }
  }

  /** 0, 8, 16 and 64 bits, and no others. */
  private static void bits() {
    for (int bits = -70; bits <= 270; bits++) {
      boolean may = bits == 0 || bits == 8 || bits == 16 || bits == 64;
      due.is("sheet of " + bits + " bits", new TalkKnots().sheet(0, bits, 3),
          may ? bits == 0 ? 0 : 3 : Due.BEYOND);
    }
  }

  /** MAST, OPEN and AGE alone can be set, whatever v is. */
  private static void whats() {
    for (int what = -3; what <= 12; what++) {
      boolean may = what == 1 || what == 2 || what == 4;
      for (int v = 0; v < 4; v++) {
        due.is("set of what " + what, Worlds.make("new").set(0, what, v), Due.BEYOND);
        due.holds("set of what " + what + " to " + v,
            (Worlds.make("some").set(0, what, v) == Due.BEYOND) == !may);
      }
    }
  }

  /** With no KNOTS each number of one is BEYOND. */
  private static void noKnots() {
    String[] calls = {
      "of 0", "set 2 0", "turn 0", "as 0", "tease", "tie", "cast", "on 0 0", "gives", "kind",
      "open 0", "move 1",
    };
    for (String call : calls) {
      String[] words = call.split(" ");
      for (int k = -1; k <= 10; k++) {
        long[] a = new long[words.length];
        a[0] = k;
        for (int i = 1; i < a.length; i++) {
          a[i] = Long.parseLong(words[i]);
        }
        due.is(call + " of " + k + " with no KNOTS", Calls.call(new TalkKnots(), words[0], a),
            Due.BEYOND);
      }
    }
    TalkKnots x = new TalkKnots();
    x.sheet(0, 8, 0);
    due.is("book of 0 with no KNOTS", x.book(0, 0), Due.BEYOND);
    due.is("read of 0 with no KNOTS", x.read(0, 0), Due.BEYOND);
  }
}
