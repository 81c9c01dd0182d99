import java.util.ArrayList;
import java.util.Arrays;
import java.util.List;
import java.util.function.Predicate;
import java.util.function.ToIntFunction;
import java.util.regex.Matcher;
import java.util.regex.Pattern;

/**
 * The document a second time, word by word and with no thought of speed, for ModelTest to hold the
 * program against. Findings are thrown here and counted in one place.
 */
final class Model {
  private static final class Finding extends RuntimeException {
    private static final long serialVersionUID = 1L;
    final int number;

    Finding(int number) {
      super(null, null, false, false);
      this.number = number;
    }
  }

  private static void need(boolean so, int otherwise) {
    if (!so) {
      throw new Finding(otherwise);
    }
  }

  private static void inside(int v, int least, int most) {
    need(least <= v && v <= most, Due.BEYOND);
  }

  // The kinds, each as the one above it but for what the document says of it.

  private static class Kind {
    int holds(World w, Rope r) {
      return 2 * r.open;
    }

    int settles(World w, Rope r) {
      return 2;
    }

    int teased(Rope r) {
      return 15;
    }

    boolean gives(World w, Rope r, int strain) {
      return strain > w.holds(r);
    }
  }

  private static class Splice extends Kind {
    @Override
    int holds(World w, Rope r) {
      return super.holds(w, r) + (r.open >= 60 ? r.open : 0);
    }

    @Override
    int settles(World w, Rope r) {
      return r.open >= 60 ? 0 : super.settles(w, r);
    }

    @Override
    int teased(Rope r) {
      return super.teased(r) * 2;
    }

    @Override
    boolean gives(World w, Rope r, int strain) {
      return r.open < 90 && super.gives(w, r, strain);
    }
  }

  private static class Hitch extends Kind {
    @Override
    int holds(World w, Rope r) {
      return Math.max(0, super.holds(w, r) - w.wind());
    }

    @Override
    int settles(World w, Rope r) {
      return super.settles(w, r) + w.wind() / 10;
    }

    @Override
    int teased(Rope r) {
      return super.teased(r) - 5;
    }
  }

  private static final class Fool extends Kind {
    @Override
    int holds(World w, Rope r) {
      return 99 - r.open;
    }

    @Override
    int settles(World w, Rope r) {
      return -1;
    }

    @Override
    int teased(Rope r) {
      return -20;
    }

    @Override
    boolean gives(World w, Rope r, int strain) {
      return super.gives(w, r, strain) || r.open == 99;
    }
  }

  private static final class Hawser extends Splice {
    @Override
    int holds(World w, Rope r) {
      int others = (int) w.ropes.stream().filter(o -> o != r && o.mast == r.mast && o.fast).count();
      return super.holds(w, r) + 10 * others;
    }

    @Override
    int settles(World w, Rope r) {
      return Math.max(0, super.settles(w, r) - 1);
    }
  }

  private static final class Vow extends Hitch {
    @Override
    int holds(World w, Rope r) {
      return Math.max(60, super.holds(w, r));
    }

    @Override
    int settles(World w, Rope r) {
      return r.age < 6 ? 0 : super.settles(w, r);
    }

    @Override
    int teased(Rope r) {
      return r.open >= 90 ? 0 : super.teased(r);
    }

    @Override
    boolean gives(World w, Rope r, int strain) {
      return r.age >= 3 && super.gives(w, r, strain);
    }
  }

  private static final List<Kind> KINDS = List.of(new Kind(), new Splice(), new Hitch(), new Fool(),
      new Hawser(), new Vow());
  private static final List<String> NAMES =
      List.of("knot", "splice", "hitch", "fool", "hawser", "vow");

  private static final class Rope {
    int kind;
    int mast;
    int open = 50;
    boolean fast = true;
    int age = 0;

    Rope(int kind, int mast) {
      this.kind = kind;
      this.mast = mast;
    }

    Rope(Rope o) {
      this(o.kind, o.mast);
      open = o.open;
      fast = o.fast;
      age = o.age;
    }

    Kind kind() {
      return KINDS.get(kind);
    }

    void more(int by) {
      open = Math.min(99, Math.max(0, open + by));
    }

    void tease() {
      more(kind().teased(this));
    }
  }

  private static final class World {
    int hour = 0;
    final int[] winds = new int[12];
    final int[] weights = {100, 100, 100, 100};
    final boolean[] up = {true, true, true, true};
    final List<Rope> ropes = new ArrayList<>();

    World() {
      for (int i = 0; i < 12; i++) {
        winds[i] = (7 * i) % 30;
      }
    }

    World(World o) {
      hour = o.hour;
      System.arraycopy(o.winds, 0, winds, 0, 12);
      System.arraycopy(o.weights, 0, weights, 0, 4);
      System.arraycopy(o.up, 0, up, 0, 4);
      o.ropes.forEach(r -> ropes.add(new Rope(r)));
    }

    int wind() {
      return winds[hour % 12];
    }

    int holds(Rope r) {
      return r.fast ? r.kind().holds(this, r) : 0;
    }

    List<Rope> fastOf(int mast) {
      return ropes.stream().filter(r -> r.mast == mast && r.fast).toList();
    }

    int strain(int mast) {
      int n = fastOf(mast).size();
      return n == 0 ? 0 : (weights[mast] + 3 * wind()) / n;
    }

    World hour() {
      for (int mast = 0; mast < 4; mast++) {
        if (up[mast]) {
          int strain = strain(mast);
          List<Rope> giving =
              fastOf(mast).stream().filter(r -> r.kind().gives(this, r, strain)).toList();
          giving.forEach(r -> r.fast = false);
          up[mast] = !fastOf(mast).isEmpty();
        }
      }
      for (Rope r : ropes) {
        if (r.fast) {
          r.more(-r.kind().settles(this, r));
          r.age = Math.min(9999, r.age + 1);
        }
      }
      hour++;
      return this;
    }

    World on(int n) {
      World w = new World(this);
      for (int i = 0; i < n; i++) {
        w.hour();
      }
      return w;
    }

    int ups() {
      int set = 0;
      for (int mast = 0; mast < 4; mast++) {
        set |= up[mast] ? 1 << mast : 0;
      }
      return set;
    }

    int ropesThat(Predicate<Rope> so) {
      int set = 0;
      for (int k = 0; k < ropes.size(); k++) {
        set |= so.test(ropes.get(k)) ? 1 << k : 0;
      }
      return set;
    }

    int sum(ToIntFunction<Rope> of) {
      return ropes.stream().mapToInt(of).sum();
    }

    /** In how many hours (0 to 200) it is so first; 201 if it isn't. */
    int when(Predicate<World> so) {
      World w = new World(this);
      for (int t = 0; t <= 200; t++) {
        if (so.test(w)) {
          return t;
        }
        w.hour();
      }
      return 201;
    }
  }

  private World world = new World();
  private World image = null;
  private String tape = "";
  private final int[] bits = new int[4];
  private final long[][] sheets = new long[4][];
  private final int[] told = new int[7];

  /** Makes a call by its name. */
  long call(String name, long[] a) {
    int[] i = new int[a.length];
    for (int k = 0; k < a.length; k++) {
      i[k] = (int) a[k];
    }
    try {
      return answer(name, i, a);
    } catch (Finding f) {
      told[Due.BEYOND - f.number]++;
      return f.number;
    }
  }

  private long answer(String name, int[] i, long[] a) {
    switch (name) {
      case "wind": return wind(i[0], i[1]);
      case "weight": return weight(i[0], i[1]);
      case "raise": return raise(i[0]);
      case "mastOf": return mastOf(i[0], i[1]);
      case "now": return now(i[0]);
      case "knot": return knot(i[0], i[1]);
      case "of": return of(i[0], i[1]);
      case "set": return set(i[0], i[1], i[2]);
      case "turn": return turn(i[0], i[1]);
      case "as": return as(i[0], i[1]);
      case "tease": return tease(i[0]);
      case "tie": return tie(i[0]);
      case "cast": return cast(i[0]);
      case "hours": return hours(i[0]);
      case "on": return on(i[0], i[1], i[2]);
      case "then": return then(i[0], i[1]);
      case "falls": return falls(i[0]);
      case "gives": return gives(i[0]);
      case "best": return best(i[0]);
      case "kind": return kind(i[0]);
      case "open": return open(i[0], i[1]);
      case "bears": return bears(i[0], i[1]);
      case "move": return move(i[0], i[1]);
      case "calm": return calm(i[0]);
      case "firmest": return firmest(i[0]);
      case "feed": return feed(i[0], i[1]);
      case "wipe": return wipe();
      case "yard": return yard();
      case "sheet": return sheet(i[0], i[1], i[2]);
      case "write": return write(i[0], i[1], a[2]);
      case "copy": return copy(i[0], i[1], i[2], i[3], i[4]);
      case "lays": return lays(i[0]);
      case "book": return book(i[0], i[1]);
      case "read": return read(i[0], i[1]);
      case "image": image = new World(world); return 1;
      case "undo": return undo();
      case "tear": return tear();
      case "count": return count(i[0]);
      case "status": return status(i[0]);
      default: throw new IllegalArgumentException(name);
    }
  }

  private Rope rope(int k) {
    inside(k, 0, world.ropes.size() - 1);
    return world.ropes.get(k);
  }

  private int wind(int place, int v) {
    inside(place, 0, 11);
    inside(v, 0, 99);
    int was = world.winds[place];
    world.winds[place] = v;
    return was;
  }

  private int weight(int mast, int v) {
    inside(mast, 0, 3);
    inside(v, 0, 999);
    int was = world.weights[mast];
    world.weights[mast] = v;
    return was;
  }

  private int raise(int mast) {
    inside(mast, 0, 3);
    int had = world.up[mast] ? 0 : 1;
    world.up[mast] = true;
    return had;
  }

  private int mastOf(int mast, int what) {
    inside(mast, 0, 3);
    inside(what, 0, 5);
    return new int[] {
      world.weights[mast], world.up[mast] ? 1 : 0, world.ropesThat(r -> r.mast == mast),
      world.ropesThat(r -> r.mast == mast && r.fast), world.strain(mast),
      world.sum(r -> r.mast == mast ? world.holds(r) : 0)}[what];
  }

  private int now(int what) {
    inside(what, 0, 5);
    return new int[] {world.hour, world.hour % 12, world.wind(), world.ups(),
      world.ropesThat(r -> r.fast), world.sum(r -> r.open)}[what];
  }

  private int knot(int kind, int mast) {
    inside(kind, 0, 5);
    inside(mast, 0, 3);
    need(world.ropes.size() < 10, Due.FULL);
    world.ropes.add(new Rope(kind, mast));
    return world.ropes.size() - 1;
  }

  private int of(int k, int what) {
    Rope r = rope(k);
    inside(what, 0, 8);
    boolean gives = r.fast && r.kind().gives(world, r, world.strain(r.mast));
    return new int[] {r.kind, r.mast, r.open, r.fast ? 1 : 0, r.age, world.holds(r),
      100 + r.kind().settles(world, r), 100 + r.kind().teased(r), gives ? 1 : 0}[what];
  }

  private int set(int k, int what, int v) {
    Rope r = rope(k);
    need(what == 1 || what == 2 || what == 4, Due.BEYOND);
    inside(v, 0, what == 1 ? 3 : what == 2 ? 99 : 9999);
    int was = what == 1 ? r.mast : what == 2 ? r.open : r.age;
    if (what == 1) {
      r.mast = v;
    } else if (what == 2) {
      r.open = v;
    } else {
      r.age = v;
    }
    return was;
  }

  private int turn(int k, int kind) {
    Rope r = rope(k);
    inside(kind, 0, 5);
    int was = r.kind;
    r.kind = kind;
    return was;
  }

  private int as(int k, int kind) {
    Rope r = rope(k);
    inside(kind, 0, 5);
    need(KINDS.get(kind).getClass().isInstance(r.kind()), Due.KIND);
    return r.open;
  }

  private int tease(int k) {
    Rope r = rope(k);
    r.tease();
    return r.open;
  }

  private int tie(int k) {
    Rope r = rope(k);
    need(!r.fast, Due.STATE);
    r.fast = true;
    r.age = 0;
    return 1;
  }

  private int cast(int k) {
    Rope r = rope(k);
    need(r.fast, Due.STATE);
    r.fast = false;
    return r.age;
  }

  private int hours(int n) {
    inside(n, 1, 100);
    need(world.hour + n <= 99999, Due.STATE);
    world = world.on(n);
    return world.ups();
  }

  private int on(int k, int n, int what) {
    rope(k);
    inside(n, 0, 200);
    inside(what, 0, 2);
    Rope r = world.on(n).ropes.get(k);
    return new int[] {r.open, r.fast ? 1 : 0, r.age}[what];
  }

  private int then(int n, int what) {
    inside(n, 0, 200);
    inside(what, 0, 1);
    World w = world.on(n);
    return what == 0 ? w.ups() : w.ropesThat(r -> r.fast);
  }

  private int falls(int mast) {
    inside(mast, 0, 3);
    int t = world.when(w -> !w.up[mast]);
    need(t <= 200, Due.NONE);
    return t;
  }

  private int gives(int k) {
    rope(k);
    int t = world.when(w -> !w.ropes.get(k).fast);
    need(t <= 200, Due.NONE);
    return t;
  }

  private int best(int mast) {
    inside(mast, 0, 3);
    int[] t = new int[world.ropes.size()];
    for (int k = 0; k < t.length; k++) {
      World w = new World(world);
      w.ropes.get(k).tease();
      t[k] = w.when(v -> !v.up[mast]);
    }
    int latest = Arrays.stream(t).max().orElse(0);
    need(latest > world.when(v -> !v.up[mast]), Due.NONE);
    return leastWith(t, latest);
  }

  private static int leastWith(int[] row, int v) {
    int k = 0;
    while (row[k] != v) {
      k++;
    }
    return k;
  }

  private static int leastOfMost(int[] row) {
    return leastWith(row, Arrays.stream(row).max().getAsInt());
  }

  private int kind(int k) {
    rope(k);
    int[] t = new int[6];
    for (int kind = 0; kind < 6; kind++) {
      World w = new World(world);
      w.ropes.get(k).kind = kind;
      t[kind] = w.when(v -> !v.ropes.get(k).fast);
    }
    return leastOfMost(t);
  }

  private int open(int k, int n) {
    rope(k);
    inside(n, 0, 100);
    for (int open = 0; open < 100; open++) {
      World w = new World(world);
      w.ropes.get(k).open = open;
      if (w.on(n).ropes.get(k).fast) {
        return open;
      }
    }
    throw new Finding(Due.NONE);
  }

  private int bears(int mast, int n) {
    inside(mast, 0, 3);
    inside(n, 0, 100);
    for (int weight = 999; weight >= 0; weight--) {
      World w = new World(world);
      w.weights[mast] = weight;
      // Nothing raises a mast as hours go, so one that has fallen need be followed no longer.
      for (int t = 0; t < n && w.up[mast]; t++) {
        w.hour();
      }
      if (w.up[mast]) {
        return weight;
      }
    }
    throw new Finding(Due.NONE);
  }

  private int move(int k, int n) {
    rope(k);
    inside(n, 1, 100);
    int[] up = new int[4];
    for (int mast = 0; mast < 4; mast++) {
      World w = new World(world);
      w.ropes.get(k).mast = mast;
      up[mast] = Integer.bitCount(w.on(n).ups());
    }
    return leastOfMost(up);
  }

  private int calm(int n) {
    inside(n, 1, 100);
    int[] fast = new int[12];
    for (int place = 0; place < 12; place++) {
      World w = new World(world);
      w.winds[place] = 0;
      fast[place] = Integer.bitCount(w.on(n).ropesThat(r -> r.fast));
    }
    return leastOfMost(fast);
  }

  private int firmest(int n) {
    inside(n, 0, 200);
    need(!world.ropes.isEmpty(), Due.NONE);
    World w = world.on(n);
    return leastOfMost(w.ropes.stream().mapToInt(w::holds).toArray());
  }

  private int feed(int bytes, int n) {
    inside(n, 1, 4);
    need(tape.length() + n <= 120, Due.FULL);
    byte[] all = {(byte) (bytes >> 24), (byte) (bytes >> 16), (byte) (bytes >> 8), (byte) bytes};
    for (int i = 4 - n; i < 4; i++) {
      tape += (char) (all[i] & 255);
    }
    return tape.length();
  }

  private int wipe() {
    int had = tape.length();
    tape = "";
    return had;
  }

  // The text: each item is a row of what may stand at each step, tried in turn.

  private static final class Fault extends RuntimeException {
    private static final long serialVersionUID = 1L;

    Fault() {
      super(null, null, false, false);
    }
  }

  private static final Pattern TOKEN = Pattern.compile("([a-z]+|[0-9]+|;)");

  private final List<String> words = new ArrayList<>();
  private final List<Integer> places = new ArrayList<>();
  private int at = 0;

  /** All tokens, up to the end or to a byte that begins none (which is then the token "?"). */
  private void cut(String text) {
    words.clear();
    places.clear();
    at = 0;
    Matcher m = TOKEN.matcher(text);
    int from = 0;
    while (true) {
      while (from < text.length() && text.charAt(from) == ' ') {
        from++;
      }
      places.add(from);
      if (from == text.length()) {
        words.add("");
        return;
      }
      if (!m.region(from, text.length()).lookingAt()) {
        words.add("?");
        return;
      }
      words.add(m.group());
      from = m.end();
    }
  }

  private boolean perhaps(String word) {
    if (words.get(at).equals(word)) {
      at++;
      return true;
    }
    return false;
  }

  private int number(int most) {
    String word = words.get(at);
    if (!word.matches("[0-9]+") || new java.math.BigInteger(word).compareTo(
        java.math.BigInteger.valueOf(most)) > 0) {
      throw new Fault();
    }
    at++;
    return Integer.parseInt(word);
  }

  private int yard() {
    cut(tape);
    tape = "";
    World w = new World(world);
    int items = 0;
    try {
      do {
        item(w);
        items++;
      } while (perhaps(";"));
      if (!perhaps("")) {
        throw new Fault();
      }
    } catch (Fault f) {
      return -1 - places.get(at);
    }
    world = w;
    return items;
  }

  private void item(World w) {
    if (perhaps("mast")) {
      int mast = number(3);
      w.weights[mast] = number(999);
      w.up[mast] = !perhaps("down");
    } else if (perhaps("wind")) {
      int place = number(11);
      w.winds[place] = number(99);
    } else if (perhaps("tease")) {
      w.ropes.get(number(w.ropes.size() - 1)).tease();
    } else if (NAMES.contains(words.get(at)) && w.ropes.size() < 10) {
      int kind = NAMES.indexOf(words.get(at++));
      Rope r = new Rope(kind, number(3));
      if (perhaps("open")) {
        r.open = number(99);
      }
      r.fast = !perhaps("loose");
      w.ropes.add(r);
    } else {
      throw new Fault();
    }
  }

  private int sheet(int s, int b, int n) {
    inside(s, 0, 3);
    need(b == 0 || b == 8 || b == 16 || b == 64, Due.BEYOND);
    need(n >= 0, Due.SIZE);
    inside(n, 0, 40);
    bits[s] = b;
    sheets[s] = b == 0 ? null : new long[n];
    return b == 0 ? 0 : n;
  }

  private long[] row(int s) {
    inside(s, 0, 3);
    need(sheets[s] != null, Due.MISSING);
    return sheets[s];
  }

  private long write(int s, int i, long v) {
    long[] row = row(s);
    inside(i, 0, row.length - 1);
    long was = row[i];
    int above = 64 - bits[s];
    row[i] = v << above >> above;
    return was;
  }

  private int copy(int s, int from, int t, int to, int n) {
    inside(s, 0, 3);
    inside(t, 0, 3);
    need(sheets[s] != null && sheets[t] != null, Due.MISSING);
    need(bits[s] == bits[t], Due.KIND);
    need(from >= 0 && to >= 0 && n >= 0, Due.BEYOND);
    need((long) from + n <= sheets[s].length && (long) to + n <= sheets[t].length, Due.BEYOND);
    long[] were = sheets[s].clone();
    for (int i = 0; i < n; i++) {
      sheets[t][to + i] = were[from + i];
    }
    return n;
  }

  private int lays(int s) {
    long[] row = row(s);
    int came = 0;
    for (int i = 0; i < row.length; i++) {
      if (i < 12 && row[i] >= 0 && row[i] <= 99) {
        world.winds[i] = (int) row[i];
        came++;
      }
    }
    return came;
  }

  private int book(int s, int k) {
    long[] row = row(s);
    rope(k);
    for (int i = 0; i < row.length; i++) {
      row[i] = world.on(i).ropes.get(k).open;
    }
    return row.length;
  }

  private int read(int s, int k) {
    long[] row = row(s);
    rope(k);
    int pairs = 0;
    for (int kind = 0; kind < 6; kind++) {
      for (int open = 0; open < 100; open++) {
        World w = new World(world);
        w.ropes.get(k).kind = kind;
        w.ropes.get(k).open = open;
        boolean so = true;
        for (int i = 0; i < row.length && so; i++) {
          so = row[i] == w.ropes.get(k).open;
          w.hour();
        }
        pairs += so ? 1 : 0;
      }
    }
    return pairs;
  }

  private int undo() {
    need(image != null, Due.NONE);
    world = new World(image);
    return world.ropes.size();
  }

  private int tear() {
    int had = image == null ? 0 : 1;
    image = null;
    return had;
  }

  private int count(int what) {
    inside(what, 0, 3);
    return new int[] {world.ropes.size(), tape.length(), Arrays.stream(world.weights).sum(),
      world.sum(r -> r.age)}[what];
  }

  private int status(int which) {
    inside(which, -1, 6);
    return which == -1 ? Arrays.stream(told).sum() : told[which];
  }
}
