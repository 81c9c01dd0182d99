import java.lang.reflect.InvocationTargetException;
import java.lang.reflect.Method;
import java.util.ArrayList;
import java.util.Arrays;
import java.util.List;
import java.util.Random;

/** Many runs of calls, drawn from fixed seeds, each held against the model of the document. */
public final class ModelTest {
  private static final int RUNS = 400;
  private static final int CALLS = 512;
  private static final int WRONG_SHOWN = 5;

  /** Each call, and what sort of number is drawn for each of its arguments. */
  private static final String[] FACE = {
    "wind place windy", "weight mast heavy", "raise mast", "mastOf mast six", "now six",
    "knot kind mast", "of knot nine", "set knot five value", "turn knot kind", "as knot kind",
    "tease knot", "tie knot", "cast knot", "hours hours", "on knot far three", "then far two",
    "falls mast", "gives knot", "best mast", "kind knot", "open knot near", "bears mast near",
    "move knot near", "calm near", "firmest far", "feed any four", "wipe", "yard",
    "sheet sheets bits size", "write sheets index number", "copy sheets index sheets index index",
    "lays sheets", "book sheets knot", "read sheets knot", "image", "undo", "tear", "count four",
    "status seven",
  };

  private static final String[] WORDS = {
    "knot", "splice", "hitch", "fool", "hawser", "vow", "open", "loose", "mast", "down", "wind",
    "tease", ";", ";", ";", "0", "1", "2", "3", "9", "50", "99", "100", "999", "1000", "$", "rope",
  };

  private final Random random;
  private final TalkKnots program = new TalkKnots();
  private final Model model = new Model();
  private final List<String> run = new ArrayList<>();
  private int wrong = 0;

  private ModelTest(long seed) {
    random = new Random(seed);
  }

  public static void main(String[] args) throws Exception {
    int runs = args.length > 1 ? Integer.parseInt(args[1]) : RUNS;
    int wrongRuns = 0;
    for (int seed = 1; seed <= runs && wrongRuns < WRONG_SHOWN; seed++) {
      ModelTest test = new ModelTest(seed);
      test.runAll(seed);
      wrongRuns += test.wrong;
    }
    faceIsWhole();
    System.out.println(runs + " runs, " + wrongRuns + " not as due");
    if (wrongRuns != 0) {
      System.exit(1);
    }
  }

  /** Every public method is drawn. */
  private static void faceIsWhole() {
    long methods = Arrays.stream(TalkKnots.class.getDeclaredMethods())
        .filter(m -> java.lang.reflect.Modifier.isPublic(m.getModifiers())).count();
    if (methods != FACE.length) {
      System.out.println("the class has " + methods + " methods, the test " + FACE.length);
      System.exit(1);
    }
  }

  private void runAll(int seed) throws Exception {
    int busy = random.nextInt(3);
    for (int i = 0; i < CALLS && wrong == 0; ) {
      if (random.nextInt(12) == 0) {
        i += tellText();
      } else {
        oneCall(FACE[drawCall(busy)].split(" "));
        i++;
      }
    }
    if (wrong != 0) {
      System.out.println("seed " + seed + ":");
      run.forEach(call -> System.out.println("  " + call));
    }
  }

  /** A quiet run lets few hours go and casts few off, so that its yard stands for long. */
  private int drawCall(int busy) {
    int drawn = random.nextInt(FACE.length);
    for (int again = busy; again < 2; again++) {
      String name = FACE[drawn].split(" ")[0];
      if (name.equals("hours") || name.equals("cast") || name.equals("undo")) {
        drawn = random.nextInt(FACE.length);
      }
    }
    return drawn;
  }

  private void oneCall(String[] told) throws Exception {
    long[] a = new long[told.length - 1];
    for (int i = 0; i < a.length; i++) {
      a[i] = draw(told[i + 1]);
    }
    call(told[0], a);
  }

  private void call(String name, long... a) throws Exception {
    long want = model.call(name, a);
    String got;
    try {
      got = String.valueOf(invoke(name, a));
    } catch (InvocationTargetException e) {
      got = String.valueOf(e.getCause());
    }
    String row = name + Arrays.toString(a) + " -> " + got;
    run.add(row);
    if (!got.equals(String.valueOf(want))) {
      wrong++;
      run.add("due was " + want);
    }
  }

  private long invoke(String name, long[] a) throws Exception {
    Method method = Arrays.stream(TalkKnots.class.getDeclaredMethods())
        .filter(m -> m.getName().equals(name)).findFirst().orElseThrow();
    Object[] args = new Object[a.length];
    for (int i = 0; i < a.length; i++) {
      if (method.getParameterTypes()[i] == long.class) {
        args[i] = a[i];
      } else {
        args[i] = (int) a[i];
      }
    }
    return ((Number) method.invoke(program, args)).longValue();
  }

  /** Feeds a text of which most is right, and has it told: how many calls that took. */
  private int tellText() throws Exception {
    StringBuilder text = new StringBuilder();
    int items = 1 + random.nextInt(5);
    for (int i = 0; i < items; i++) {
      text.append(i == 0 ? "" : random.nextBoolean() ? "; " : ";").append(drawItem());
    }
    if (random.nextInt(3) == 0) {
      spoil(text);
    }
    if (random.nextInt(4) != 0) {
      call("wipe");
    }
    int calls = 1;
    for (int i = 0; i < text.length() && i < 120; i += 4) {
      int n = Math.min(4, text.length() - i);
      int bytes = 0;
      for (int j = 0; j < n; j++) {
        bytes = bytes << 8 | text.charAt(i + j) & 255;
      }
      call("feed", bytes, n);
      calls++;
    }
    call("yard");
    return calls + 1;
  }

  private String drawItem() {
    switch (random.nextInt(6)) {
      case 0:
        return "mast " + random.nextInt(4) + " " + random.nextInt(400)
            + (random.nextInt(4) == 0 ? " down" : "");
      case 1:
        return "wind " + random.nextInt(12) + " " + random.nextInt(100);
      case 2:
        return "tease " + random.nextInt(6);
      default:
        return WORDS[random.nextInt(6)] + " " + random.nextInt(4)
            + (random.nextBoolean() ? " open " + random.nextInt(100) : "")
            + (random.nextInt(5) == 0 ? " loose" : "");
    }
  }

  private void spoil(StringBuilder text) {
    int place = random.nextInt(text.length());
    switch (random.nextInt(4)) {
      case 0:
        text.setCharAt(place, (char) random.nextInt(256));
        break;
      case 1:
        text.insert(place, " " + WORDS[random.nextInt(WORDS.length)] + " ");
        break;
      case 2:
        text.setLength(place);
        break;
      default:
        text.deleteCharAt(place);
    }
  }

  private long draw(String sort) {
    if (random.nextInt(60) == 0) {
      int[] wild = {-1, Integer.MIN_VALUE, Integer.MAX_VALUE, 1000, 10000, random.nextInt()};
      return wild[random.nextInt(wild.length)];
    }
    int wider = random.nextInt(15) == 0 ? 1 : 0;
    switch (sort) {
      case "place": return random.nextInt(12 + wider);
      case "windy": return random.nextInt(random.nextBoolean() ? 20 : 100 + wider);
      case "mast": return random.nextInt(4 + wider) - random.nextInt(1 + wider);
      case "heavy": return random.nextInt(random.nextInt(4) == 0 ? 1000 + wider : 300);
      case "kind": return random.nextInt(6 + wider) - random.nextInt(1 + wider);
      case "knot": return random.nextInt(wider == 1 ? 11 : Math.max(1, program.count(0)));
      case "value": return random.nextInt(new int[] {4, 100, 101, 12, 10001}[random.nextInt(5)]);
      case "hours": return 1 + random.nextInt(random.nextInt(6) == 0 ? 100 + wider : 5);
      case "far": return random.nextInt(random.nextBoolean() ? 201 + wider : 20);
      case "near": return random.nextInt(random.nextBoolean() ? 101 + wider : 20);
      case "two": return random.nextInt(2 + wider);
      case "three": return random.nextInt(3 + wider);
      case "four": return random.nextInt(4 + wider);
      case "five": return new int[] {1, 2, 2, 4, 3}[random.nextInt(5)];
      case "six": return random.nextInt(6 + wider);
      case "seven": return random.nextInt(8 + wider) - 1;
      case "nine": return random.nextInt(9 + wider);
      case "sheets": return random.nextInt(4 + wider) - random.nextInt(1 + wider);
      case "bits": return new int[] {8, 16, 64, 8, 8, 0, 32}[random.nextInt(7)];
      case "size": return random.nextInt(random.nextBoolean() ? 42 : 8) - random.nextInt(1 + wider);
      case "index": return random.nextInt(random.nextInt(3) == 0 ? 41 : 6);
      case "number": return drawNumber();
      case "any": return random.nextInt();
      default: throw new IllegalArgumentException(sort);
    }
  }

  private long drawNumber() {
    switch (random.nextInt(4)) {
      case 0:
        return random.nextLong();
      case 1:
        return random.nextInt(300) - 100;
      default:
        return random.nextInt(100);
    }
  }
}
