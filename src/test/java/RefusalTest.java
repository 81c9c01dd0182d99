import java.util.Arrays;
import java.util.List;

/**
 * Every finding of every call: that it is told, that it is the one of the first reason where there
 * are two, that it is counted, and that nothing else changes. Each row is tried on an object that
 * has a twin, made alike but for the refused call; all that the two can tell is then held together.
 */
public final class RefusalTest {
  private static final Due due = new Due();

  /** The world, the call with its arguments, the finding. */
  static final String[] ROWS = {
    // Promise 2
    "some wind -1 5 BEYOND", "some wind 12 5 BEYOND", "some wind 3 -1 BEYOND",
    "some wind 3 100 BEYOND", "some wind MIN 0 BEYOND", "some wind MAX 0 BEYOND",
    "some wind 0 MIN BEYOND", "some wind 0 MAX BEYOND",
    // Promise 3
    "some weight -1 5 BEYOND", "some weight 4 5 BEYOND", "some weight 2 -1 BEYOND",
    "some weight 2 1000 BEYOND", "some weight 2 MIN BEYOND", "some weight MAX MAX BEYOND",
    // Promise 4
    "some raise -1 BEYOND", "some raise 4 BEYOND", "some raise 34 BEYOND", "some raise MIN BEYOND",
    // Promise 5
    "full mastOf -1 0 BEYOND", "full mastOf 4 0 BEYOND", "full mastOf 0 -1 BEYOND",
    "full mastOf 0 6 BEYOND", "full mastOf MAX 0 BEYOND", "full mastOf 0 MIN BEYOND",
    // Promise 6
    "full now -1 BEYOND", "full now 6 BEYOND", "full now MIN BEYOND", "full now MAX BEYOND",
    // Promise 7: BEYOND is asked before FULL.
    "some knot -1 0 BEYOND", "some knot 6 0 BEYOND", "some knot 0 -1 BEYOND",
    "some knot 0 4 BEYOND", "full knot -1 0 BEYOND", "full knot 6 0 BEYOND",
    "full knot 0 -1 BEYOND", "full knot 0 4 BEYOND", "full knot 0 0 FULL", "full knot 5 3 FULL",
    // Promise 8
    "new of 0 0 BEYOND", "some of 3 0 BEYOND", "some of -1 0 BEYOND", "some of 0 9 BEYOND",
    "some of 0 -1 BEYOND", "full of 10 0 BEYOND", "full of MIN 0 BEYOND", "full of 0 MAX BEYOND",
    // Promise 9: KIND, FAST and what is no what can't be set.
    "new set 0 2 5 BEYOND", "some set 3 2 5 BEYOND", "some set -1 2 5 BEYOND",
    "some set 0 -1 1 BEYOND", "some set 0 0 1 BEYOND", "some set 0 3 1 BEYOND",
    "some set 2 3 1 BEYOND", "some set 0 5 1 BEYOND", "some set 0 8 1 BEYOND",
    "some set 0 1 -1 BEYOND", "some set 0 1 4 BEYOND", "some set 0 2 -1 BEYOND",
    "some set 0 2 100 BEYOND", "some set 0 4 -1 BEYOND", "some set 0 4 10000 BEYOND",
    "full set 10 4 1 BEYOND", "full set 0 2 MIN BEYOND", "full set 0 4 MAX BEYOND",
    // Promise 10
    "new turn 0 1 BEYOND", "some turn 3 1 BEYOND", "some turn -1 1 BEYOND",
    "some turn 0 -1 BEYOND", "some turn 0 6 BEYOND", "full turn 10 1 BEYOND",
    // Promise 11: BEYOND is asked before KIND.
    "new as 0 0 BEYOND", "some as 3 1 BEYOND", "some as -1 0 BEYOND", "some as 0 -1 BEYOND",
    "some as 0 6 BEYOND", "full as 10 0 BEYOND", "some as 0 1 KIND", "some as 1 2 KIND",
    "some as 1 4 KIND", "some as 2 1 KIND", "full as 4 2 KIND", "full as 5 1 KIND",
    "full as 2 5 KIND",
    // Promise 12
    "new tease 0 BEYOND", "some tease 3 BEYOND", "some tease -1 BEYOND", "full tease 10 BEYOND",
    // Promise 13
    "new tie 0 BEYOND", "some tie 3 BEYOND", "some tie -1 BEYOND", "full tie 10 BEYOND",
    "some tie 0 STATE", "some tie 1 STATE",
    // Promise 14
    "new cast 0 BEYOND", "some cast 3 BEYOND", "some cast -1 BEYOND", "full cast 10 BEYOND",
    "some cast 2 STATE", "full cast 9 STATE",
    // Promise 15: BEYOND is asked before STATE.
    "some hours 0 BEYOND", "some hours -1 BEYOND", "some hours 101 BEYOND", "some hours MIN BEYOND",
    "some hours MAX BEYOND", "late hours 0 BEYOND", "late hours 101 BEYOND", "late hours 1 STATE",
    "late hours 100 STATE",
    // Promise 16
    "new on 0 0 0 BEYOND", "some on 3 0 0 BEYOND", "some on -1 0 0 BEYOND", "some on 0 -1 0 BEYOND",
    "some on 0 201 0 BEYOND", "some on 0 0 -1 BEYOND", "some on 0 0 3 BEYOND",
    "full on 10 0 0 BEYOND", "full on 0 MAX 0 BEYOND", "full on 0 MIN 0 BEYOND",
    // Promise 17
    "some then -1 0 BEYOND", "some then 201 0 BEYOND", "some then 0 -1 BEYOND",
    "some then 0 2 BEYOND", "some then MAX 0 BEYOND", "some then MIN 0 BEYOND",
    // Promise 18
    "some falls -1 BEYOND", "some falls 4 BEYOND", "some falls 1 NONE",
    // Promise 19
    "new gives 0 BEYOND", "some gives -1 BEYOND", "some gives 3 BEYOND", "full gives 10 BEYOND",
    "some gives 1 NONE",
    // Promise 20
    "some best -1 BEYOND", "some best 4 BEYOND", "new best 0 NONE", "some best 1 NONE",
    "some best 2 NONE",
    // Promise 21
    "new kind 0 BEYOND", "some kind -1 BEYOND", "some kind 3 BEYOND", "full kind 10 BEYOND",
    // Promise 22: BEYOND is asked before NONE.
    "new open 0 0 BEYOND", "some open -1 0 BEYOND", "some open 3 0 BEYOND", "some open 0 -1 BEYOND",
    "some open 0 101 BEYOND", "some open 2 101 BEYOND", "full open 10 0 BEYOND",
    "some open 2 0 NONE", "some open 2 100 NONE",
    // Promise 23: BEYOND is asked before NONE.
    "some bears -1 0 BEYOND", "some bears 4 0 BEYOND", "some bears 0 -1 BEYOND",
    "some bears 0 101 BEYOND", "some bears 3 101 BEYOND", "some bears 3 0 NONE",
    "new bears 0 1 NONE",
    // Promise 24
    "new move 0 1 BEYOND", "some move -1 1 BEYOND", "some move 3 1 BEYOND", "some move 0 0 BEYOND",
    "some move 0 101 BEYOND", "some move 0 -1 BEYOND", "full move 10 1 BEYOND",
    // Promise 25
    "some calm 0 BEYOND", "some calm 101 BEYOND", "some calm -1 BEYOND", "new calm 0 BEYOND",
    // Promise 26: BEYOND is asked before NONE.
    "some firmest -1 BEYOND", "some firmest 201 BEYOND", "new firmest 201 BEYOND",
    "new firmest -1 BEYOND", "new firmest 0 NONE", "new firmest 200 NONE",
    // Promise 27: BEYOND is asked before FULL, and no byte of those that are too many comes.
    "some feed 32 0 BEYOND", "some feed 32 5 BEYOND", "some feed 32 -1 BEYOND",
    "full feed 32 0 BEYOND", "full feed 32 5 BEYOND", "some feed 32 3 FULL", "some feed 32 4 FULL",
    "full feed 32 1 FULL", "full feed 32 4 FULL", "some feed 32 MIN BEYOND",
    "some feed 32 MAX BEYOND",
    // Promise 30: no such sheet, other bits; SIZE; too many.
    "some sheet -1 8 1 BEYOND", "some sheet 4 8 1 BEYOND", "some sheet 4 8 -1 BEYOND",
    "some sheet 0 1 1 BEYOND", "some sheet 0 32 1 BEYOND", "some sheet 0 -1 1 BEYOND",
    "some sheet 0 32 -1 BEYOND", "some sheet 0 7 1 BEYOND", "some sheet 0 9 1 BEYOND",
    "some sheet 0 65 1 BEYOND", "some sheet 0 8 -1 SIZE", "some sheet 0 16 MIN SIZE",
    "some sheet 0 64 -1 SIZE", "some sheet 0 0 -1 SIZE", "some sheet 3 0 -1 SIZE",
    "some sheet 0 8 41 BEYOND", "some sheet 0 16 41 BEYOND", "some sheet 0 64 MAX BEYOND",
    "some sheet 0 0 41 BEYOND",
    // Promise 31: no such sheet; MISSING; no such number.
    "some write -1 0 5 BEYOND", "some write 4 0 5 BEYOND", "some write 3 0 5 MISSING",
    "some write 3 -1 5 MISSING", "some write 3 40 5 MISSING", "some write 0 -1 5 BEYOND",
    "some write 0 6 5 BEYOND", "some write 1 5 5 BEYOND", "some write 2 MIN 5 BEYOND",
    "some write 2 MAX 5 BEYOND", "new write 0 0 5 MISSING",
    // Promise 32: no such sheet (either); MISSING; KIND; too many or below 0.
    "some copy -1 0 0 0 1 BEYOND", "some copy 4 0 0 0 1 BEYOND", "some copy 0 0 -1 0 1 BEYOND",
    "some copy 0 0 4 0 1 BEYOND", "some copy 3 0 4 0 1 BEYOND", "some copy 4 0 3 0 1 BEYOND",
    "some copy 3 0 0 0 1 MISSING", "some copy 0 0 3 0 1 MISSING", "some copy 3 0 3 0 0 MISSING",
    "some copy 0 -1 3 0 1 MISSING", "some copy 1 0 3 0 1 MISSING", "some copy 3 0 1 0 1 MISSING",
    "some copy 0 0 1 0 1 KIND", "some copy 1 0 2 0 0 KIND", "some copy 0 -1 1 0 99 KIND",
    "some copy 0 -1 2 0 1 BEYOND", "some copy 0 0 2 -1 1 BEYOND", "some copy 0 0 2 0 -1 BEYOND",
    "some copy 0 3 2 0 4 BEYOND", "some copy 0 0 2 1 4 BEYOND", "some copy 0 7 2 0 0 BEYOND",
    "some copy 0 0 2 5 0 BEYOND", "some copy 0 1 0 0 6 BEYOND", "some copy 0 0 0 1 6 BEYOND",
    "some copy 0 MAX 2 0 MAX BEYOND", "some copy 0 1 2 1 MAX BEYOND", "some copy 0 0 2 MAX 1 BEYOND",
    "some copy 0 MIN 2 0 MIN BEYOND", "some copy 0 7 2 0 -1 BEYOND",
    // Promise 33
    "some lays -1 BEYOND", "some lays 4 BEYOND", "some lays 3 MISSING", "new lays 0 MISSING",
    // Promise 34: no such sheet; MISSING; no such knot.
    "some book -1 0 BEYOND", "some book 4 0 BEYOND", "some book 4 9 BEYOND", "some book 3 0 MISSING",
    "some book 3 9 MISSING", "some book 0 3 BEYOND", "some book 0 -1 BEYOND", "new book 0 0 MISSING",
    "full book 0 10 BEYOND",
    // Promise 35: as promise 34.
    "some read -1 0 BEYOND", "some read 4 0 BEYOND", "some read 4 9 BEYOND", "some read 3 0 MISSING",
    "some read 3 9 MISSING", "some read 0 3 BEYOND", "some read 0 -1 BEYOND", "new read 0 0 MISSING",
    "full read 0 10 BEYOND",
    // Promises 37, 39 and 40
    "some undo NONE", "new undo NONE",
    "full count -1 BEYOND", "full count 4 BEYOND", "full count MIN BEYOND", "full count MAX BEYOND",
    "full status -2 BEYOND", "full status 7 BEYOND", "full status MIN BEYOND",
    "full status MAX BEYOND",
  };

  /** These tell no finding at all. */
  private static final List<String> NEVER = List.of("wipe", "yard", "image", "tear");

  public static void main(String[] args) {
    for (String row : ROWS) {
      refused(row);
    }
    everyCallIsThere();
    due.end();
  }

  private static void refused(String row) {
    String[] words = row.split(" ");
    int last = words.length - 1;
    long finding = Calls.number(words[last]);
    TalkKnots x = Worlds.make(words[0]);
    TalkKnots twin = Worlds.make(words[0]);
    due.is(row, Calls.call(x, words[1], Calls.numbers(words, 2, last)), finding);
    for (int which = 0; which < 7; which++) {
      int more = Due.BEYOND - which == finding ? 1 : 0;
      due.is(row + ": status(" + which + ")", x.status(which), twin.status(which) + more);
    }
    due.is(row + ": status(-1)", x.status(-1), twin.status(-1) + 1);
    String other = Seen.difference(Seen.all(x), Seen.all(twin));
    due.holds(row + ": nothing else changes, but " + other, other == null);
  }

  private static void everyCallIsThere() {
    for (java.lang.reflect.Method method : TalkKnots.class.getDeclaredMethods()) {
      String name = method.getName();
      if (java.lang.reflect.Modifier.isPublic(method.getModifiers()) && !NEVER.contains(name)) {
        due.holds("a refusal of " + name,
            Arrays.stream(ROWS).anyMatch(row -> row.split(" ")[1].equals(name)));
      }
    }
  }
}
