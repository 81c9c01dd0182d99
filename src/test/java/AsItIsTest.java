import java.util.Random;

/**
 * "ON: n HOURS go on with all as it is": in yards in which nothing is as at first (HOUR, winds,
 * weights, MASTS that fell, KNOTS of any AGE, loose ones) each call that looks ahead is held
 * against objects, made alike, on which it is done by the plain calls and the hours go by.
 */
public final class AsItIsTest {
  private static final Due due = new Due();
  private static final int SEEDS = 60;
  private static final int[] HOURS = {0, 1, 2, 5, 11, 12, 13, 30, 60, 99, 100, 101, 199, 200};

  public static void main(String[] args) {
    for (int seed = 1; seed <= SEEDS; seed++) {
      TalkKnots x = make(seed);
      int knots = x.count(0);
      for (int n : HOURS) {
        hoursAhead(seed, n, knots);
      }
      for (int mast = 0; mast < 4; mast++) {
        String told = "(" + mast + ") of yard " + seed;
        due.is("falls" + told, x.falls(mast), orNone(tillFallen(make(seed), mast)));
        due.is("best" + told, x.best(mast), bestSought(seed, mast, knots));
        bears(seed, x, mast);
      }
      for (int k = 0; k < knots; k++) {
        String told = "(" + k + ") of yard " + seed;
        due.is("gives" + told, x.gives(k), orNone(tillLoose(make(seed), k)));
        due.is("kind" + told, x.kind(k), kindSought(seed, k));
        openAndMove(seed, x, k);
      }
      for (int n = 1; n <= 100; n += 9) {
        due.is("calm(" + n + ") of yard " + seed, x.calm(n), calmSought(seed, n));
      }
      sheets(seed, knots);
    }
    due.end();
  }

  /** A yard of a seed, always the same. */
  private static TalkKnots make(int seed) {
    Random random = new Random(seed);
    TalkKnots x = new TalkKnots();
    x.hours(1 + random.nextInt(40));
    for (int mast = 0; mast < 4; mast++) {
      x.weight(mast, random.nextInt(4) == 0 ? random.nextInt(1000) : random.nextInt(200));
      if (random.nextInt(4) > 0) {
        x.raise(mast);
      }
    }
    for (int place = 0; place < 12; place++) {
      x.wind(place, random.nextInt(3) == 0 ? random.nextInt(100) : random.nextInt(12));
    }
    int knots = 1 + random.nextInt(10);
    for (int k = 0; k < knots; k++) {
      x.knot(random.nextInt(6), random.nextInt(4));
      x.set(k, 2, random.nextInt(100));
      x.set(k, 4, random.nextInt(9));
      if (random.nextInt(6) == 0) {
        x.cast(k);
      }
    }
    return x;
  }

  private static TalkKnots pass(TalkKnots x, int n) {
    for (int left = n; left > 0; left -= 100) {
      x.hours(Math.min(left, 100));
    }
    return x;
  }

  private static void hoursAhead(int seed, int n, int knots) {
    TalkKnots x = make(seed);
    TalkKnots later = pass(make(seed), n);
    String told = " ON " + n + " HOURS of yard " + seed;
    due.is("MASTS" + told, x.then(n, 0), later.now(3));
    due.is("KNOTS" + told, x.then(n, 1), later.now(4));
    int firmest = 0;
    for (int k = 0; k < knots; k++) {
      due.is("OPEN of " + k + told, x.on(k, n, 0), later.of(k, 2));
      due.is("FAST of " + k + told, x.on(k, n, 1), later.of(k, 3));
      due.is("AGE of " + k + told, x.on(k, n, 2), later.of(k, 4));
      firmest = later.of(k, 5) > later.of(firmest, 5) ? k : firmest;
    }
    due.is("firmest" + told, x.firmest(n), firmest);
  }

  /** In how many hours a MAST has fallen; 201 if it hasn't in 200. */
  private static int tillFallen(TalkKnots x, int mast) {
    int hours = 0;
    int up = x.now(3);
    while (hours <= 200 && (up >> mast & 1) == 1) {
      up = x.hours(1);
      hours++;
    }
    return hours;
  }

  private static int tillLoose(TalkKnots x, int k) {
    int hours = 0;
    while (hours <= 200 && x.of(k, 3) == 1) {
      x.hours(1);
      hours++;
    }
    return hours;
  }

  private static int orNone(int hours) {
    return hours > 200 ? Due.NONE : hours;
  }

  private static int bestSought(int seed, int mast, int knots) {
    int latest = tillFallen(make(seed), mast);
    int found = Due.NONE;
    for (int k = 0; k < knots; k++) {
      TalkKnots x = make(seed);
      x.tease(k);
      int hours = tillFallen(x, mast);
      if (hours > latest) {
        latest = hours;
        found = k;
      }
    }
    return found;
  }

  private static int kindSought(int seed, int k) {
    int latest = -1;
    int found = -1;
    for (int kind = 0; kind < 6; kind++) {
      TalkKnots x = make(seed);
      x.turn(k, kind);
      int hours = tillLoose(x, k);
      if (hours > latest) {
        latest = hours;
        found = kind;
      }
    }
    return found;
  }

  private static void bears(int seed, TalkKnots x, int mast) {
    for (int n : new int[] {0, 1, 4, 15, 50, 100}) {
      int borne = x.bears(mast, n);
      String told = "bears(" + mast + ", " + n + ") of yard " + seed + ": " + borne;
      if (borne != Due.NONE) {
        due.holds(told + " is borne", isBorne(seed, mast, n, borne));
      }
      for (int weight = Math.max(0, borne + 1); weight < 1000; weight += 7) {
        due.holds(told + ", " + weight + " is not", !isBorne(seed, mast, n, weight));
      }
      if (borne < 999) {
        due.holds(told + ", 1 more is not", !isBorne(seed, mast, n, Math.max(0, borne + 1)));
      }
    }
  }

  private static boolean isBorne(int seed, int mast, int n, int weight) {
    TalkKnots x = make(seed);
    x.weight(mast, weight);
    return (pass(x, n).now(3) >> mast & 1) == 1;
  }

  private static void openAndMove(int seed, TalkKnots x, int k) {
    for (int n : new int[] {0, 1, 3, 9, 27, 100}) {
      String told = "(" + k + ", " + n + ") of yard " + seed;
      due.is("open" + told, x.open(k, n), openSought(seed, k, n));
      if (n > 0) {
        due.is("move" + told, x.move(k, n), moveSought(seed, k, n));
      }
    }
  }

  private static int openSought(int seed, int k, int n) {
    for (int open = 0; open < 100; open++) {
      TalkKnots x = make(seed);
      x.set(k, 2, open);
      if (pass(x, n).of(k, 3) == 1) {
        return open;
      }
    }
    return Due.NONE;
  }

  private static int moveSought(int seed, int k, int n) {
    int most = -1;
    int found = -1;
    for (int mast = 0; mast < 4; mast++) {
      TalkKnots x = make(seed);
      x.set(k, 1, mast);
      int standing = Integer.bitCount(pass(x, n).now(3));
      if (standing > most) {
        most = standing;
        found = mast;
      }
    }
    return found;
  }

  private static int calmSought(int seed, int n) {
    int most = -1;
    int found = -1;
    for (int place = 0; place < 12; place++) {
      TalkKnots x = make(seed);
      x.wind(place, 0);
      int fast = Integer.bitCount(pass(x, n).now(4));
      if (fast > most) {
        most = fast;
        found = place;
      }
    }
    return found;
  }

  /** A book of each KNOT, and how many pairs the reader finds for it. */
  private static void sheets(int seed, int knots) {
    for (int k = 0; k < knots; k++) {
      int size = 2 + (seed + k) % 12;
      TalkKnots x = make(seed);
      // The numbers are those of another KIND and OPEN than it has.
      x.turn(k, (seed + k) % 6);
      x.set(k, 2, (37 * seed + 11 * k) % 100);
      x.sheet(0, 64, size);
      due.is("book of " + k, x.book(0, k), size);
      TalkKnots reader = make(seed);
      reader.sheet(0, 64, size);
      long[] numbers = new long[size];
      for (int i = 0; i < size; i++) {
        numbers[i] = x.of(k, 2);
        String told = "number " + i + " of the book of " + k + " of yard " + seed;
        due.is(told, x.write(0, i, 0), numbers[i]);
        reader.write(0, i, numbers[i]);
        x.hours(1);
      }
      due.is("read of " + k + " of yard " + seed, reader.read(0, k), pairs(seed, k, numbers));
    }
  }

  private static int pairs(int seed, int k, long[] numbers) {
    int found = 0;
    for (int kind = 0; kind < 6; kind++) {
      for (int open = 0; open < 100; open++) {
        TalkKnots x = make(seed);
        x.turn(k, kind);
        x.set(k, 2, open);
        int same = 0;
        while (same < numbers.length && x.of(k, 2) == numbers[same]) {
          x.hours(1);
          same++;
        }
        found += same == numbers.length ? 1 : 0;
      }
    }
    return found;
  }
}
