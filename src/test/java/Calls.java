/** Makes a call by its name, so that tests can be told as rows. */
final class Calls {
  private Calls() {
  }

  static long call(TalkKnots x, String name, long[] a) {
    int[] i = new int[a.length];
    for (int k = 0; k < a.length; k++) {
      i[k] = (int) a[k];
    }
    switch (name) {
      case "wind": return x.wind(i[0], i[1]);
      case "weight": return x.weight(i[0], i[1]);
      case "raise": return x.raise(i[0]);
      case "mastOf": return x.mastOf(i[0], i[1]);
      case "now": return x.now(i[0]);
      case "knot": return x.knot(i[0], i[1]);
      case "of": return x.of(i[0], i[1]);
      case "set": return x.set(i[0], i[1], i[2]);
      case "turn": return x.turn(i[0], i[1]);
      case "as": return x.as(i[0], i[1]);
      case "tease": return x.tease(i[0]);
      case "tie": return x.tie(i[0]);
      case "cast": return x.cast(i[0]);
      case "hours": return x.hours(i[0]);
      case "on": return x.on(i[0], i[1], i[2]);
      case "then": return x.then(i[0], i[1]);
      case "falls": return x.falls(i[0]);
      case "gives": return x.gives(i[0]);
      case "best": return x.best(i[0]);
      case "kind": return x.kind(i[0]);
      case "open": return x.open(i[0], i[1]);
      case "bears": return x.bears(i[0], i[1]);
      case "move": return x.move(i[0], i[1]);
      case "calm": return x.calm(i[0]);
      case "firmest": return x.firmest(i[0]);
      case "feed": return x.feed(i[0], i[1]);
      case "wipe": return x.wipe();
      case "yard": return x.yard();
      case "sheet": return x.sheet(i[0], i[1], i[2]);
      case "write": return x.write(i[0], i[1], a[2]);
      case "copy": return x.copy(i[0], i[1], i[2], i[3], i[4]);
      case "lays": return x.lays(i[0]);
      case "book": return x.book(i[0], i[1]);
      case "read": return x.read(i[0], i[1]);
      case "image": return x.image();
      case "undo": return x.undo();
      case "tear": return x.tear();
      case "count": return x.count(i[0]);
      case "status": return x.status(i[0]);
      default: throw new IllegalArgumentException(name);
    }
  }

  /** The number of a finding by its name; any other word is a number itself. */
  static long number(String word) {
    switch (word) {
      case "BEYOND": return Due.BEYOND;
      case "FULL": return Due.FULL;
      case "KIND": return Due.KIND;
      case "NONE": return Due.NONE;
      case "STATE": return Due.STATE;
      case "MISSING": return Due.MISSING;
      case "SIZE": return Due.SIZE;
      case "MIN": return Integer.MIN_VALUE;
      case "MAX": return Integer.MAX_VALUE;
      default: return Long.parseLong(word);
    }
  }

  static long[] numbers(String[] words, int from, int to) {
    long[] all = new long[to - from];
    for (int i = 0; i < all.length; i++) {
      all[i] = number(words[from + i]);
    }
    return all;
  }
}
