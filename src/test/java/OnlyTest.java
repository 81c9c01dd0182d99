import java.lang.reflect.Method;
import java.lang.reflect.Modifier;
import java.util.ArrayList;
import java.util.List;
import java.util.regex.Pattern;

/**
 * Every call that is answered changes what its promise says, and nothing else. Each row is tried on
 * an object that has a twin, made alike but for the call; then both are asked one thing, and what
 * they answer is held together. For the next thing two new ones are made, as asking, too, might
 * change something.
 */
public final class OnlyTest {
  private static final Due due = new Due();

  private static final String[] WORLDS = {"some", "full", "odd", "told"};

  /** The call, and a pattern of what may be answered differently then. */
  private static final String[][] ROWS = {
    // Promises 2 to 4
    {"wind 7 55", "wind 7 0"},
    {"wind 1 56", "wind 1 0|now 2|mastOf . [45]"},
    {"wind 3 57", "wind 3 0|now 2|mastOf . [45]"},
    {"wind 6 58", "wind 6 0|now 2|mastOf . [45]"},
    {"wind 9 59", "wind 9 0|now 2|mastOf . [45]"},
    {"weight 0 155", "mastOf 0 [04]|count 2"},
    {"weight 2 155", "mastOf 2 [04]|count 2"},
    {"raise 0", "mastOf 0 1|now 3"},
    {"raise 1", "mastOf 1 1|now 3"},
    {"raise 3", "mastOf 3 1|now 3"},
    // Promises 9, 10 and 12
    {"set 0 1 2", "of 0 1|mastOf [02] [2345]"},
    {"set 1 1 2", "of 1 1|mastOf [12] [2345]"},
    {"set 0 2 67", "of 0 2|now 5|mastOf 0 5"},
    {"set 1 2 67", "of 1 2|now 5|mastOf 1 5"},
    {"set 0 4 67", "of 0 4|count 3"},
    {"set 1 4 67", "of 1 4|count 3"},
    // A text on THE TAPE may tease the one that was turned.
    {"turn 0 3", "of 0 0|mastOf 0 5|yard; (of 0 2|now 5)"},
    {"turn 1 3", "of 1 0|mastOf 1 5|yard; (of 1 2|now 5)"},
    {"tease 0", "of 0 2|now 5|mastOf 0 5"},
    {"tease 1", "of 1 2|now 5|mastOf 1 5"},
    // Promise 15
    {"hours 1", "now .|mastOf . [1345]|of . [234]|count 3"},
    {"hours 30", "now .|mastOf . [1345]|of . [234]|count 3"},
    // Promises 28, 30 and 31
    {"wipe", "count 1|wipe|yard(; .*)?"},
    {"sheet 0 16 3", "write 0 .*"},
    {"sheet 1 8 3", "write 1 .*"},
    {"sheet 2 0 0", "write 2 .*"},
    {"sheet 3 64 2", "write 3 .*"},
    {"write 0 0 44", "write 0 0 0"},
    {"write 1 2 45", "write 1 2 0"},
    {"write 2 3 46", "write 2 3 0"},
    // Promises 32 to 34
    {"copy 0 0 2 1 2", "write 2 [12] 0"},
    {"copy 2 1 0 0 3", "write 0 [012] 0"},
    {"copy 0 0 0 1 2", "write 0 [12] 0"},
    {"lays 0", "wind .+ 0|now 2|mastOf . [45]"},
    {"lays 1", "wind [01234] 0|now 2|mastOf . [45]"},
    {"book 0 0", "write 0 .* 0"},
    {"book 1 1", "write 1 .* 0"},
    // Promises 36 to 38; what an image keeps is held by EdgeImageTest.
    {"image", "undo(; .*)?|tear"},
    {"tear", "undo(; .*)?|tear"},
  };

  /** Rows for one world alone, as the others refuse them or tell more then. */
  private static final String[][] ROWS_OF_WORLDS = {
    // Promise 7: the KNOT of a text on THE TAPE has another number then.
    {"some", "knot 2 3", "of [34] .|count 0|now [45]|mastOf 3 [2345]"},
    {"some", "knot 5 0", "of [34] .|count 0|now [45]|mastOf 0 [2345]|yard; mastOf 3 [23]"},
    {"odd", "knot 0 1", "of 6 .|count 0|now [45]|mastOf 1 [2345]"},
    {"told", "knot 4 2", "of 5 .|count 0|now [45]|mastOf 2 [2345]"},
    // Promise 13
    {"some", "tie 2", "of 2 [34]|count 3|now 4|mastOf 0 [345]"},
    {"full", "tie 4", "of 4 [34]|count 3|now 4|mastOf 0 [345]"},
    {"odd", "tie 0", "of 0 [34]|count 3|now 4|mastOf 0 [345]"},
    {"odd", "tie 5", "of 5 [34]|count 3|now 4|mastOf 1 [345]"},
    {"told", "tie 0", "of 0 [34]|count 3|now 4|mastOf 0 [345]"},
    {"told", "tie 2", "of 2 [34]|count 3|now 4|mastOf 2 [345]"},
    // Promise 14
    {"some", "cast 0", "of 0 3|now 4|mastOf 0 [345]"},
    {"some", "cast 1", "of 1 3|now 4|mastOf 1 [345]"},
    {"full", "cast 5", "of 5 3|now 4|mastOf 1 [345]"},
    {"odd", "cast 3", "of 3 3|now 4|mastOf 3 [345]"},
    {"told", "cast 3", "of 3 3|now 4|mastOf 3 [345]"},
    // Promise 27: blanks behind an ITEM change nothing of what it tells.
    {"some", "feed 8224 2", "count 1|wipe"},
    {"odd", "feed 538976288 4", "count 1|wipe"},
    {"told", "feed 538976288 4", "count 1|wipe"},
    {"new", "feed 32 1", "count 1|wipe|yard"},
    // Promise 29
    {"odd", "yard", "of 1 2|now 5|mastOf 1 5|count 1|wipe|yard"},
    {"told", "yard", "of 1 2|now 5|mastOf 1 5|count 1|wipe|yard"},
    {"new", "yard", ""},
    // Promise 37: sheets and THE TAPE stay.
    {"full", "undo", "now .|mastOf . .|of . .|wind .+ 0|count [23]"},
    {"odd", "undo", "now .|mastOf . .|of . .|wind .+ 0|count [023]"},
    {"told", "undo", "wind .+ 0"},
  };

  /** These change nothing at all. */
  private static final String[] ASKED = {
    "mastOf 0 0", "mastOf 3 1", "mastOf 1 2", "mastOf 2 3", "mastOf 0 4", "mastOf 1 5", "now 0",
    "now 1", "now 2", "now 3", "now 4", "now 5", "of 0 0", "of 1 1", "of 2 2", "of 0 3", "of 1 4",
    "of 2 5", "of 0 6", "of 1 7", "of 2 8", "of 0 8", "as 0 0", "as 1 0", "on 0 0 0", "on 0 7 0",
    "on 1 200 1", "on 2 33 2", "then 0 0", "then 200 0", "then 44 1", "falls 0", "falls 2",
    "gives 0", "gives 2", "best 0", "best 2", "best 3", "kind 0", "kind 1", "kind 2", "open 0 0",
    "open 0 1", "open 1 0", "open 3 1", "bears 0 0", "bears 1 1", "bears 2 1", "bears 3 1",
    "move 0 1", "move 1 100", "move 2 20", "calm 1", "calm 100", "firmest 0", "firmest 200",
    "read 0 0", "read 1 1", "read 2 2", "count 0", "count 1", "count 2", "count 3", "status -1",
    "status 0", "status 3", "status 6",
  };

  public static void main(String[] args) {
    List<String> questions = questions();
    for (String[] row : ROWS) {
      for (String world : WORLDS) {
        only(world, row[0], row[1], questions);
      }
    }
    for (String[] row : ROWS_OF_WORLDS) {
      only(row[0], row[1], row[2], questions);
    }
    for (String call : ASKED) {
      for (String world : WORLDS) {
        only(world, call, "", questions);
      }
    }
    everyCallIsThere();
    due.end();
  }

  /** All that can be asked: of what there is, of that with the tape's ITEMS, and of the image. */
  private static List<String> questions() {
    List<String> all = new ArrayList<>(List.of("wipe", "yard", "undo", "tear", "count 1"));
    for (String before : new String[] {"", "yard; ", "undo; "}) {
      for (int what = 0; what < 6; what++) {
        all.add(before + "now " + what);
        for (int mast = 0; mast < 4; mast++) {
          all.add(before + "mastOf " + mast + " " + what);
        }
      }
      for (int k = 0; k < 10; k++) {
        for (int what = 0; what < 5; what++) {
          all.add(before + "of " + k + " " + what);
        }
      }
      for (int place = 0; place < 12; place++) {
        all.add(before + "wind " + place + " 0");
      }
      all.addAll(List.of(before + "count 0", before + "count 2", before + "count 3"));
    }
    for (int s = 0; s < 4; s++) {
      for (int i = 0; i < 14; i++) {
        all.add("write " + s + " " + i + " 0");
      }
      // 66000 is another number in 8, 16 and 64 bits.
      all.add("write " + s + " 0 66000; write " + s + " 0 0");
    }
    for (int which = -1; which < 7; which++) {
      all.add("status " + which);
    }
    return all;
  }

  private static void only(String world, String call, String mayChange, List<String> questions) {
    if (isFinding(ask(Worlds.make(world), call))) {
      // What was refused is RefusalTest's.
      return;
    }
    Pattern may = Pattern.compile("(yard; )?(" + mayChange + ")");
    for (String question : questions) {
      TalkKnots x = Worlds.make(world);
      ask(x, call);
      if (!may.matcher(question).matches()) {
        due.is(question + " after " + call + " in " + world, ask(x, question),
            ask(Worlds.make(world), question));
      }
    }
  }

  private static boolean isFinding(long answer) {
    return answer <= Due.BEYOND && answer >= Due.SIZE;
  }

  /** What the last of some calls answers, or the first that tells a finding. */
  private static long ask(TalkKnots x, String calls) {
    long answer = 0;
    for (String call : calls.split("; ")) {
      String[] words = call.split(" ");
      answer = Calls.call(x, words[0], Calls.numbers(words, 1, words.length));
      if (isFinding(answer)) {
        break;
      }
    }
    return answer;
  }

  /** Every public call has a row that isn't refused. */
  private static void everyCallIsThere() {
    List<String> answered = new ArrayList<>();
    for (String[] row : ROWS) {
      answered.add(row[0]);
    }
    for (String[] row : ROWS_OF_WORLDS) {
      answered.add(row[1]);
    }
    answered.addAll(List.of(ASKED));
    answered.removeIf(call -> isFinding(ask(Worlds.make("told"), call))
        && isFinding(ask(Worlds.make("some"), call)));
    for (Method method : TalkKnots.class.getDeclaredMethods()) {
      if (Modifier.isPublic(method.getModifiers())) {
        due.holds("a row of " + method.getName(),
            answered.stream().anyMatch(row -> row.split(" ")[0].equals(method.getName())));
      }
    }
  }
}
