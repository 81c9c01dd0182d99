import java.util.ArrayList;
import java.util.List;

/** All that calls can tell of an object but for its status. Looking changes it: look once, last. */
final class Seen {
  private final TalkKnots x;
  private final List<String> rows = new ArrayList<>();

  private Seen(TalkKnots x) {
    this.x = x;
  }

  static List<String> all(TalkKnots x) {
    Seen seen = new Seen(x);
    seen.yard("");
    seen.sheets();
    seen.add("yard()", x.yard());
    seen.yard("with the tape's items, ");
    seen.add("undo()", x.undo());
    seen.yard("of the image, ");
    seen.add("tear()", x.tear());
    return seen.rows;
  }

  /** What is different in two such rows first; null if nothing is. */
  static String difference(List<String> one, List<String> other) {
    for (int i = 0; i < Math.max(one.size(), other.size()); i++) {
      String a = i < one.size() ? one.get(i) : "nothing more";
      String b = i < other.size() ? other.get(i) : "nothing more";
      if (!a.equals(b)) {
        return a + " against " + b;
      }
    }
    return null;
  }

  private void add(String call, long answer) {
    rows.add(call + " " + answer);
  }

  private void yard(String when) {
    for (int what = 0; what < 6; what++) {
      add(when + "now(" + what + ")", x.now(what));
      for (int mast = 0; mast < 4; mast++) {
        add(when + "mastOf(" + mast + ", " + what + ")", x.mastOf(mast, what));
      }
    }
    for (int what = 0; what < 4; what++) {
      add(when + "count(" + what + ")", x.count(what));
    }
    for (int k = 0; k < x.count(0); k++) {
      for (int what = 0; what < 5; what++) {
        add(when + "of(" + k + ", " + what + ")", x.of(k, what));
      }
    }
    for (int place = 0; place < 12; place++) {
      int was = x.wind(place, 0);
      x.wind(place, was);
      add(when + "wind of " + place, was);
    }
  }

  private void sheets() {
    for (int s = 0; s < 4; s++) {
      long was = 0;
      for (int i = 0; i <= 40 && was > Due.BEYOND; i++) {
        was = x.write(s, i, 66000);
        add("number " + i + " of sheet " + s, was);
      }
      add("as many bits has sheet " + s, x.write(s, 0, 0));
    }
  }
}
