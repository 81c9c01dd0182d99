/**
 * A yard whose masts hang on knots of talk. The document (DOC.md) says, promise by promise, what
 * each call does and answers; words in capitals here are its terms.
 *
 * <p>Everything that a call needs is made with the object, so that no call makes anything: what
 * would be so is tried out on a second yard, the trial.
 */
public final class TalkKnots {
  private static final int BEYOND = -1000000001;
  private static final int FULL = -1000000002;
  private static final int KIND = -1000000003;
  private static final int NONE = -1000000004;
  private static final int STATE = -1000000005;
  private static final int MISSING = -1000000006;
  private static final int SIZE = -1000000007;
  private static final int FINDINGS = 7;

  private static final int SPLICE = 1;
  private static final int HITCH = 2;
  private static final int FOOL = 3;
  private static final int HAWSER = 4;
  private static final int VOW = 5;
  private static final int KINDS = 6;

  private static final int MASTS = 4;
  private static final int ALL_MASTS = 15;
  private static final int PLACES = 12;
  private static final int MOST_KNOTS = 10;
  private static final int MOST_WIND = 99;
  private static final int MOST_WEIGHT = 999;
  private static final int MOST_OPEN = 99;
  private static final int MOST_AGE = 9999;
  private static final int LAST_HOUR = 99999;
  private static final int MOST_HOURS = 100;
  private static final int FARTHEST = 200;
  private static final int MOST_BYTES = 120;
  private static final int SHEETS = 4;
  private static final int MOST_NUMBERS = 40;

  private final Yard present = new Yard();
  private final Yard trial = new Yard();
  private final Yard kept = new Yard();
  private boolean isKept = false;
  private final Tape tape = new Tape();
  private final TextReader reader = new TextReader(tape, trial);
  private final Sheet[] sheets = new Sheet[SHEETS];
  private final int[] told = new int[FINDINGS];

  public TalkKnots() {
    for (int s = 0; s < SHEETS; s++) {
      sheets[s] = new Sheet();
    }
  }

  // ---- the yard

  public int wind(int place, int v) {
    if (!isWithin(place, 0, PLACES - 1) || !isWithin(v, 0, MOST_WIND)) {
      return tell(BEYOND);
    }
    int was = present.winds[place];
    present.winds[place] = v;
    return was;
  }

  public int weight(int mast, int v) {
    if (!isMast(mast) || !isWithin(v, 0, MOST_WEIGHT)) {
      return tell(BEYOND);
    }
    int was = present.weights[mast];
    present.weights[mast] = v;
    return was;
  }

  public int raise(int mast) {
    if (!isMast(mast)) {
      return tell(BEYOND);
    }
    int had = present.isUp(mast) ? 0 : 1;
    present.putUp(mast, true);
    return had;
  }

  public int mastOf(int mast, int what) {
    if (!isMast(mast)) {
      return tell(BEYOND);
    }
    switch (what) {
      case 0:
        return present.weights[mast];
      case 1:
        return present.isUp(mast) ? 1 : 0;
      case 2:
        return present.knotsOf(mast);
      case 3:
        return present.knotsOf(mast) & present.fastKnots();
      case 4:
        return present.strainOn(mast);
      case 5:
        return present.allHolding(mast);
      default:
        return tell(BEYOND);
    }
  }

  public int now(int what) {
    switch (what) {
      case 0:
        return present.hour;
      case 1:
        return present.place();
      case 2:
        return present.windNow();
      case 3:
        return present.up;
      case 4:
        return present.fastKnots();
      case 5:
        return present.allOpen();
      default:
        return tell(BEYOND);
    }
  }

  // ---- knots

  public int knot(int kind, int mast) {
    if (!isKind(kind) || !isMast(mast)) {
      return tell(BEYOND);
    }
    if (present.isFull()) {
      return tell(FULL);
    }
    return present.addKnot(kind, mast);
  }

  public int of(int knot, int what) {
    if (!isKnot(knot)) {
      return tell(BEYOND);
    }
    Knot one = present.knots[knot];
    switch (what) {
      case 0:
        return one.kind;
      case 1:
        return one.mast;
      case 2:
        return one.open;
      case 3:
        return one.fast ? 1 : 0;
      case 4:
        return one.age;
      case 5:
        return present.holdingOf(one);
      case 6:
        return 100 + one.settling(present.windNow());
      case 7:
        return 100 + one.teasing();
      case 8:
        return present.wouldGive(one) ? 1 : 0;
      default:
        return tell(BEYOND);
    }
  }

  public int set(int knot, int what, int v) {
    if (!isKnot(knot)) {
      return tell(BEYOND);
    }
    Knot one = present.knots[knot];
    if (what == 1 && isMast(v)) {
      int was = one.mast;
      one.mast = v;
      return was;
    }
    if (what == 2 && isWithin(v, 0, MOST_OPEN)) {
      int was = one.open;
      one.open = v;
      return was;
    }
    if (what == 4 && isWithin(v, 0, MOST_AGE)) {
      int was = one.age;
      one.age = v;
      return was;
    }
    return tell(BEYOND);
  }

  public int turn(int knot, int kind) {
    if (!isKnot(knot) || !isKind(kind)) {
      return tell(BEYOND);
    }
    int was = present.knots[knot].kind;
    present.knots[knot].kind = kind;
    return was;
  }

  public int as(int knot, int kind) {
    if (!isKnot(knot) || !isKind(kind)) {
      return tell(BEYOND);
    }
    Knot one = present.knots[knot];
    return one.isOf(kind) ? one.open : tell(KIND);
  }

  public int tease(int knot) {
    if (!isKnot(knot)) {
      return tell(BEYOND);
    }
    present.knots[knot].beTeased();
    return present.knots[knot].open;
  }

  public int tie(int knot) {
    if (!isKnot(knot)) {
      return tell(BEYOND);
    }
    Knot one = present.knots[knot];
    if (one.fast) {
      return tell(STATE);
    }
    one.fast = true;
    one.age = 0;
    return 1;
  }

  public int cast(int knot) {
    if (!isKnot(knot)) {
      return tell(BEYOND);
    }
    Knot one = present.knots[knot];
    if (!one.fast) {
      return tell(STATE);
    }
    one.fast = false;
    return one.age;
  }

  // ---- hours

  public int hours(int n) {
    if (!isWithin(n, 1, MOST_HOURS)) {
      return tell(BEYOND);
    }
    if (present.hour > LAST_HOUR - n) {
      return tell(STATE);
    }
    present.passHours(n);
    return present.up;
  }

  public int on(int knot, int n, int what) {
    if (!isKnot(knot) || !isWithin(n, 0, FARTHEST) || !isWithin(what, 0, 2)) {
      return tell(BEYOND);
    }
    trial.become(present);
    trial.passHours(n);
    Knot one = trial.knots[knot];
    if (what == 0) {
      return one.open;
    }
    if (what == 1) {
      return one.fast ? 1 : 0;
    }
    return one.age;
  }

  public int then(int n, int what) {
    if (!isWithin(n, 0, FARTHEST) || !isWithin(what, 0, 1)) {
      return tell(BEYOND);
    }
    trial.become(present);
    trial.passHours(n);
    return what == 0 ? trial.up : trial.fastKnots();
  }

  public int falls(int mast) {
    if (!isMast(mast)) {
      return tell(BEYOND);
    }
    trial.become(present);
    int hours = trial.hoursTillFallen(mast);
    return hours > FARTHEST ? tell(NONE) : hours;
  }

  public int gives(int knot) {
    if (!isKnot(knot)) {
      return tell(BEYOND);
    }
    trial.become(present);
    int hours = trial.hoursTillLoose(trial.knots[knot]);
    return hours > FARTHEST ? tell(NONE) : hours;
  }

  // ---- what is best

  public int best(int mast) {
    if (!isMast(mast)) {
      return tell(BEYOND);
    }
    trial.become(present);
    int latest = trial.hoursTillFallen(mast);
    int found = -1;
    for (int k = 0; k < present.count; k++) {
      trial.become(present);
      trial.knots[k].beTeased();
      int hours = trial.hoursTillFallen(mast);
      if (hours > latest) {
        latest = hours;
        found = k;
      }
    }
    return found < 0 ? tell(NONE) : found;
  }

  public int kind(int knot) {
    if (!isKnot(knot)) {
      return tell(BEYOND);
    }
    int latest = -1;
    int found = 0;
    for (int kind = 0; kind < KINDS; kind++) {
      trial.become(present);
      trial.knots[knot].kind = kind;
      int hours = trial.hoursTillLoose(trial.knots[knot]);
      if (hours > latest) {
        latest = hours;
        found = kind;
      }
    }
    return found;
  }

  public int open(int knot, int n) {
    if (!isKnot(knot) || !isWithin(n, 0, MOST_HOURS)) {
      return tell(BEYOND);
    }
    for (int tried = 0; tried <= MOST_OPEN; tried++) {
      trial.become(present);
      trial.knots[knot].open = tried;
      if (trial.staysFast(trial.knots[knot], n)) {
        return tried;
      }
    }
    return tell(NONE);
  }

  public int bears(int mast, int n) {
    if (!isMast(mast) || !isWithin(n, 0, MOST_HOURS)) {
      return tell(BEYOND);
    }
    // More WEIGHT never leaves more KNOTS FAST (each of them has more STRAIN, and no HAWSER has
    // more others), so what is borne and what isn't may be parted by halving.
    int borne = -1;
    int tooMuch = MOST_WEIGHT + 1;
    for (int step = 0; step < 10 && tooMuch - borne > 1; step++) {
      int tried = (borne + tooMuch) / 2;
      trial.become(present);
      trial.weights[mast] = tried;
      if (trial.staysUp(mast, n)) {
        borne = tried;
      } else {
        tooMuch = tried;
      }
    }
    return borne < 0 ? tell(NONE) : borne;
  }

  public int move(int knot, int n) {
    if (!isKnot(knot) || !isWithin(n, 1, MOST_HOURS)) {
      return tell(BEYOND);
    }
    int most = -1;
    int found = 0;
    for (int mast = 0; mast < MASTS; mast++) {
      trial.become(present);
      trial.knots[knot].mast = mast;
      trial.passHours(n);
      int standing = Integer.bitCount(trial.up);
      if (standing > most) {
        most = standing;
        found = mast;
      }
    }
    return found;
  }

  public int calm(int n) {
    if (!isWithin(n, 1, MOST_HOURS)) {
      return tell(BEYOND);
    }
    int most = -1;
    int found = 0;
    for (int place = 0; place < PLACES; place++) {
      trial.become(present);
      trial.winds[place] = 0;
      trial.passHours(n);
      int holding = Integer.bitCount(trial.fastKnots());
      if (holding > most) {
        most = holding;
        found = place;
      }
    }
    return found;
  }

  public int firmest(int n) {
    if (!isWithin(n, 0, FARTHEST)) {
      return tell(BEYOND);
    }
    trial.become(present);
    trial.passHours(n);
    int most = -1;
    int found = -1;
    for (int k = 0; k < trial.count; k++) {
      int holding = trial.holdingOf(trial.knots[k]);
      if (holding > most) {
        most = holding;
        found = k;
      }
    }
    return found < 0 ? tell(NONE) : found;
  }

  // ---- the text

  public int feed(int bytes, int n) {
    if (!isWithin(n, 1, 4)) {
      return tell(BEYOND);
    }
    if (tape.length > MOST_BYTES - n) {
      return tell(FULL);
    }
    for (int lower = n - 1; lower >= 0; lower--) {
      tape.add((bytes >>> (8 * lower)) & 255);
    }
    return tape.length;
  }

  public int wipe() {
    int had = tape.length;
    tape.length = 0;
    return had;
  }

  public int yard() {
    trial.become(present);
    int items = reader.readText();
    tape.length = 0;
    if (items >= 0) {
      present.become(trial);
    }
    return items;
  }

  // ---- sheets

  public int sheet(int s, int bits, int n) {
    if (!isSheet(s) || !isSheetBits(bits)) {
      return tell(BEYOND);
    }
    if (n < 0) {
      return tell(SIZE);
    }
    if (n > MOST_NUMBERS) {
      return tell(BEYOND);
    }
    int size = bits == 0 ? 0 : n;
    sheets[s].begin(bits, size);
    return size;
  }

  public long write(int s, int i, long v) {
    if (!isSheet(s)) {
      return tell(BEYOND);
    }
    Sheet sheet = sheets[s];
    if (sheet.isMissing()) {
      return tell(MISSING);
    }
    if (!isWithin(i, 0, sheet.size - 1)) {
      return tell(BEYOND);
    }
    long was = sheet.numbers[i];
    sheet.put(i, v);
    return was;
  }

  public int copy(int s, int from, int t, int to, int n) {
    if (!isSheet(s) || !isSheet(t)) {
      return tell(BEYOND);
    }
    Sheet source = sheets[s];
    Sheet target = sheets[t];
    if (source.isMissing() || target.isMissing()) {
      return tell(MISSING);
    }
    if (source.bits != target.bits) {
      return tell(KIND);
    }
    if (!source.has(from, n) || !target.has(to, n)) {
      return tell(BEYOND);
    }
    System.arraycopy(source.numbers, from, target.numbers, to, n);
    return n;
  }

  public int lays(int s) {
    if (!isSheet(s)) {
      return tell(BEYOND);
    }
    Sheet sheet = sheets[s];
    if (sheet.isMissing()) {
      return tell(MISSING);
    }
    int came = 0;
    for (int place = 0; place < PLACES && place < sheet.size; place++) {
      long v = sheet.numbers[place];
      if (v >= 0 && v <= MOST_WIND) {
        present.winds[place] = (int) v;
        came++;
      }
    }
    return came;
  }

  public int book(int s, int knot) {
    if (!isSheet(s)) {
      return tell(BEYOND);
    }
    Sheet sheet = sheets[s];
    if (sheet.isMissing()) {
      return tell(MISSING);
    }
    if (!isKnot(knot)) {
      return tell(BEYOND);
    }
    trial.become(present);
    for (int i = 0; i < sheet.size; i++) {
      sheet.put(i, trial.knots[knot].open);
      trial.passHour();
    }
    return sheet.size;
  }

  public int read(int s, int knot) {
    if (!isSheet(s)) {
      return tell(BEYOND);
    }
    Sheet sheet = sheets[s];
    if (sheet.isMissing()) {
      return tell(MISSING);
    }
    if (!isKnot(knot)) {
      return tell(BEYOND);
    }
    int pairs = 0;
    for (int kind = 0; kind < KINDS; kind++) {
      for (int tried = 0; tried <= MOST_OPEN; tried++) {
        if (sheet.mayBeginWith(tried) && goesAsTold(sheet, knot, kind, tried)) {
          pairs++;
        }
      }
    }
    return pairs;
  }

  // ---- images

  public int image() {
    kept.become(present);
    isKept = true;
    return 1;
  }

  public int undo() {
    if (!isKept) {
      return tell(NONE);
    }
    present.become(kept);
    return present.count;
  }

  public int tear() {
    int had = isKept ? 1 : 0;
    isKept = false;
    return had;
  }

  public int count(int what) {
    switch (what) {
      case 0:
        return present.count;
      case 1:
        return tape.length;
      case 2:
        return present.allWeights();
      case 3:
        return present.allAges();
      default:
        return tell(BEYOND);
    }
  }

  public int status(int which) {
    if (which == -1) {
      return allTold();
    }
    return isWithin(which, 0, FINDINGS - 1) ? told[which] : tell(BEYOND);
  }

  // ---- what the calls share

  /** Answers a finding, and counts it. */
  private int tell(int finding) {
    int which = BEYOND - finding;
    if (isWithin(which, 0, FINDINGS - 1)) {
      told[which]++;
    }
    return finding;
  }

  private int allTold() {
    int all = 0;
    for (int which = 0; which < FINDINGS; which++) {
      all += told[which];
    }
    return all;
  }

  private boolean isKnot(int knot) {
    return isWithin(knot, 0, present.count - 1);
  }

  /** Whether a KNOT, were it of that KIND and so far OPEN now, went as the sheet tells. */
  private boolean goesAsTold(Sheet sheet, int knot, int kind, int open) {
    trial.become(present);
    Knot one = trial.knots[knot];
    one.kind = kind;
    one.open = open;
    for (int i = 0; i < sheet.size; i++) {
      if (sheet.numbers[i] != one.open) {
        return false;
      }
      trial.passHour();
    }
    return true;
  }

  private static boolean isWithin(int v, int least, int most) {
    return v >= least && v <= most;
  }

  private static boolean isMast(int mast) {
    return isWithin(mast, 0, MASTS - 1);
  }

  private static boolean isKind(int kind) {
    return isWithin(kind, 0, KINDS - 1);
  }

  private static boolean isSheet(int s) {
    return isWithin(s, 0, SHEETS - 1);
  }

  private static boolean isSheetBits(int bits) {
    return bits == 0 || bits == 8 || bits == 16 || bits == 64;
  }

  /** One KNOT, and what its KIND makes of how OPEN its matter is. */
  private static final class Knot {
    private static final int OPEN_AT_FIRST = 50;
    private static final int WIDE_OPEN = 60;
    private static final int ENDLESS = 90;

    int kind = 0;
    int mast = 0;
    int open = OPEN_AT_FIRST;
    int age = 0;
    boolean fast = true;

    Knot() {
    }

    void begin(int newKind, int newMast) {
      kind = newKind;
      mast = newMast;
      open = OPEN_AT_FIRST;
      age = 0;
      fast = true;
    }

    void beLike(Knot other) {
      kind = other.kind;
      mast = other.mast;
      open = other.open;
      age = other.age;
      fast = other.fast;
    }

    boolean isOf(int higher) {
      return higher == kind
          || higher == 0
          || (higher == SPLICE && kind == HAWSER)
          || (higher == HITCH && kind == VOW);
    }

    /** HOLDS, with so many others of its MAST FAST. */
    int holding(int wind, int others) {
      if (!fast) {
        return 0;
      }
      switch (kind) {
        case SPLICE:
          return spliceHolding();
        case HITCH:
          return Math.max(0, 2 * open - wind);
        case FOOL:
          return 99 - open;
        case HAWSER:
          return spliceHolding() + 10 * others;
        case VOW:
          return Math.max(60, 2 * open - wind);
        default:
          return 2 * open;
      }
    }

    private int spliceHolding() {
      return open >= WIDE_OPEN ? 3 * open : 2 * open;
    }

    /** SETTLES. */
    int settling(int wind) {
      switch (kind) {
        case SPLICE:
          return open >= WIDE_OPEN ? 0 : 2;
        case HITCH:
          return 2 + wind / 10;
        case FOOL:
          return -1;
        case HAWSER:
          return open >= WIDE_OPEN ? 0 : 1;
        case VOW:
          return age < 6 ? 0 : 2 + wind / 10;
        default:
          return 2;
      }
    }

    /** TEASED. */
    int teasing() {
      switch (kind) {
        case SPLICE:
        case HAWSER:
          return 30;
        case HITCH:
          return 10;
        case FOOL:
          return -20;
        case VOW:
          return open >= ENDLESS ? 0 : 10;
        default:
          return 15;
      }
    }

    /** GIVES. */
    boolean givesWay(int strain, int held) {
      boolean tooMuch = strain > held;
      switch (kind) {
        case SPLICE:
        case HAWSER:
          return tooMuch && open < ENDLESS;
        case FOOL:
          return tooMuch || open == MOST_OPEN;
        case VOW:
          return tooMuch && age >= 3;
        default:
          return tooMuch;
      }
    }

    void beTeased() {
      openBy(teasing());
    }

    void settle(int wind) {
      openBy(-settling(wind));
      age = Math.min(MOST_AGE, age + 1);
    }

    private void openBy(int more) {
      open = Math.max(0, Math.min(MOST_OPEN, open + more));
    }
  }

  /** All that section 1 of the document tells, but for THE TAPE. */
  private static final class Yard {
    int hour = 0;
    int count = 0;
    /** MASTS that are UP, as a set. */
    int up = ALL_MASTS;
    final int[] winds = new int[PLACES];
    final int[] weights = new int[MASTS];
    final Knot[] knots = new Knot[MOST_KNOTS];
    /** What countFast found: no part of what the yard is. */
    private final int[] fastOn = new int[MASTS];

    Yard() {
      for (int place = 0; place < PLACES; place++) {
        winds[place] = 7 * place % 30;
      }
      for (int mast = 0; mast < MASTS; mast++) {
        weights[mast] = 100;
      }
      for (int k = 0; k < MOST_KNOTS; k++) {
        knots[k] = new Knot();
      }
    }

    void become(Yard other) {
      hour = other.hour;
      count = other.count;
      up = other.up;
      System.arraycopy(other.winds, 0, winds, 0, PLACES);
      System.arraycopy(other.weights, 0, weights, 0, MASTS);
      for (int k = 0; k < count; k++) {
        knots[k].beLike(other.knots[k]);
      }
    }

    int place() {
      return hour % PLACES;
    }

    int windNow() {
      return winds[place()];
    }

    boolean isUp(int mast) {
      return (up >> mast & 1) == 1;
    }

    void putUp(int mast, boolean isUp) {
      int bit = 1 << mast;
      up = isUp ? up | bit : up & ~bit;
    }

    boolean isFull() {
      return count >= MOST_KNOTS;
    }

    /** One more KNOT (never call it when the yard is full): its number. */
    int addKnot(int kind, int mast) {
      knots[count].begin(kind, mast);
      count++;
      return count - 1;
    }

    int knotsOf(int mast) {
      int found = 0;
      for (int k = 0; k < count; k++) {
        found |= knots[k].mast == mast ? 1 << k : 0;
      }
      return found;
    }

    int fastKnots() {
      int found = 0;
      for (int k = 0; k < count; k++) {
        found |= knots[k].fast ? 1 << k : 0;
      }
      return found;
    }

    int allOpen() {
      int all = 0;
      for (int k = 0; k < count; k++) {
        all += knots[k].open;
      }
      return all;
    }

    int allAges() {
      int all = 0;
      for (int k = 0; k < count; k++) {
        all += knots[k].age;
      }
      return all;
    }

    int allWeights() {
      int all = 0;
      for (int mast = 0; mast < MASTS; mast++) {
        all += weights[mast];
      }
      return all;
    }

    int strainOn(int mast) {
      countFast();
      return strain(mast, windNow());
    }

    int holdingOf(Knot one) {
      countFast();
      return heldBy(one, windNow());
    }

    int allHolding(int mast) {
      int all = 0;
      for (int k = 0; k < count; k++) {
        all += knots[k].mast == mast ? holdingOf(knots[k]) : 0;
      }
      return all;
    }

    boolean wouldGive(Knot one) {
      int wind = windNow();
      countFast();
      return one.fast && one.givesWay(strain(one.mast, wind), heldBy(one, wind));
    }

    void passHours(int n) {
      for (int t = 0; t < n; t++) {
        passHour();
      }
    }

    void passHour() {
      int wind = windNow();
      countFast();
      letGo(wind);
      countFast();
      dropMasts();
      settleKnots(wind);
      hour++;
    }

    boolean staysUp(int mast, int n) {
      for (int t = 0; t < n && isUp(mast); t++) {
        passHour();
      }
      return isUp(mast);
    }

    boolean staysFast(Knot one, int n) {
      for (int t = 0; t < n && one.fast; t++) {
        passHour();
      }
      return one.fast;
    }

    /** Lets hours go till a MAST has fallen: how many; above FARTHEST if it hasn't within that. */
    int hoursTillFallen(int mast) {
      int hours = 0;
      while (hours <= FARTHEST && isUp(mast)) {
        passHour();
        hours++;
      }
      return hours;
    }

    /** Lets hours go till a KNOT isn't FAST: how many; above FARTHEST if it is within that. */
    int hoursTillLoose(Knot one) {
      int hours = 0;
      while (hours <= FARTHEST && one.fast) {
        passHour();
        hours++;
      }
      return hours;
    }

    private void countFast() {
      for (int mast = 0; mast < MASTS; mast++) {
        fastOn[mast] = 0;
      }
      for (int k = 0; k < count; k++) {
        if (knots[k].fast) {
          fastOn[knots[k].mast]++;
        }
      }
    }

    /** STRAIN, by the KNOTS that countFast found. */
    private int strain(int mast, int wind) {
      int fast = fastOn[mast];
      return fast == 0 ? 0 : (weights[mast] + 3 * wind) / fast;
    }

    /** HOLDS, by the KNOTS that countFast found. */
    private int heldBy(Knot one, int wind) {
      return one.holding(wind, fastOn[one.mast] - 1);
    }

    /** All give way at once, though one by one here, as the count was made before the first did. */
    private void letGo(int wind) {
      for (int k = 0; k < count; k++) {
        Knot one = knots[k];
        if (one.fast && isUp(one.mast)
            && one.givesWay(strain(one.mast, wind), heldBy(one, wind))) {
          one.fast = false;
        }
      }
    }

    private void dropMasts() {
      for (int mast = 0; mast < MASTS; mast++) {
        if (fastOn[mast] == 0) {
          putUp(mast, false);
        }
      }
    }

    private void settleKnots(int wind) {
      for (int k = 0; k < count; k++) {
        if (knots[k].fast) {
          knots[k].settle(wind);
        }
      }
    }
  }

  /** THE TAPE. */
  private static final class Tape {
    final int[] bytes = new int[MOST_BYTES];
    int length = 0;

    Tape() {
    }

    void add(int b) {
      if (length < MOST_BYTES) {
        bytes[length] = b;
        length++;
      }
    }

    /** The byte at a place; -1, which no byte is, behind the last. */
    int byteAt(int place) {
      return place >= 0 && place < length ? bytes[place] : -1;
    }
  }

  /** Reads THE TEXT of a YARD from a tape, and lets its ITEMS come to a yard as it goes. */
  private static final class TextReader {
    private static final int END = 0;
    private static final int WORD = 1;
    private static final int NUMBER = 2;
    private static final int SEMICOLON = 3;
    private static final int STRANGE = 4;
    private static final int TOO_MUCH = 1000;

    private final Tape tape;
    private final Yard yard;
    /** The first byte that no TOKEN has taken yet. */
    private int at = 0;
    /** The TOKEN that comes next: what it is, its first byte, and what a NUMBER is worth. */
    private int token = END;
    private int start = 0;
    private int value = 0;
    /** The NUMBER that was taken last. */
    private int taken = 0;

    TextReader(Tape tape, Yard yard) {
      this.tape = tape;
      this.yard = yard;
    }

    /** How many ITEMS; with a FAULT -1 less its place, and the yard is then half told. */
    int readText() {
      at = 0;
      readToken();
      for (int items = 1; items <= MOST_BYTES; items++) {
        if (!readItem()) {
          break;
        }
        if (token == END) {
          return items;
        }
        if (token != SEMICOLON) {
          break;
        }
        readToken();
      }
      return -1 - start;
    }

    // What reads a part of the text answers false if the TOKEN that comes next is a FAULT.

    private boolean readItem() {
      if (takeWord("mast")) {
        return readMast();
      }
      if (takeWord("wind")) {
        return readWind();
      }
      if (takeWord("tease")) {
        return readTease();
      }
      return readKnot();
    }

    private boolean readMast() {
      if (!takeNumber(MASTS - 1)) {
        return false;
      }
      int mast = taken;
      if (!takeNumber(MOST_WEIGHT)) {
        return false;
      }
      yard.weights[mast] = taken;
      yard.putUp(mast, !takeWord("down"));
      return true;
    }

    private boolean readWind() {
      if (!takeNumber(PLACES - 1)) {
        return false;
      }
      int place = taken;
      if (!takeNumber(MOST_WIND)) {
        return false;
      }
      yard.winds[place] = taken;
      return true;
    }

    private boolean readTease() {
      if (!takeNumber(yard.count - 1)) {
        return false;
      }
      yard.knots[taken].beTeased();
      return true;
    }

    private boolean readKnot() {
      int kind = kindTold();
      if (kind < 0 || yard.isFull()) {
        return false;
      }
      readToken();
      if (!takeNumber(MASTS - 1)) {
        return false;
      }
      Knot one = yard.knots[yard.addKnot(kind, taken)];
      if (takeWord("open")) {
        if (!takeNumber(MOST_OPEN)) {
          return false;
        }
        one.open = taken;
      }
      one.fast = !takeWord("loose");
      return true;
    }

    /** The KIND whose name comes next; -1 if none does. */
    private int kindTold() {
      for (int kind = 0; kind < KINDS; kind++) {
        if (isWord(nameOf(kind))) {
          return kind;
        }
      }
      return -1;
    }

    private static String nameOf(int kind) {
      switch (kind) {
        case SPLICE:
          return "splice";
        case HITCH:
          return "hitch";
        case FOOL:
          return "fool";
        case HAWSER:
          return "hawser";
        case VOW:
          return "vow";
        default:
          return "knot";
      }
    }

    private boolean takeWord(String word) {
      if (!isWord(word)) {
        return false;
      }
      readToken();
      return true;
    }

    private boolean isWord(String word) {
      if (token != WORD || at - start != word.length()) {
        return false;
      }
      for (int i = 0; i < word.length(); i++) {
        if (tape.byteAt(start + i) != word.charAt(i)) {
          return false;
        }
      }
      return true;
    }

    private boolean takeNumber(int most) {
      if (token != NUMBER || value > most) {
        return false;
      }
      taken = value;
      readToken();
      return true;
    }

    private void readToken() {
      while (at < tape.length && tape.byteAt(at) == ' ') {
        at++;
      }
      start = at;
      int first = tape.byteAt(at);
      if (isLetter(first)) {
        token = WORD;
        while (at < tape.length && isLetter(tape.byteAt(at))) {
          at++;
        }
      } else if (isDigit(first)) {
        token = NUMBER;
        value = 0;
        while (at < tape.length && isDigit(tape.byteAt(at))) {
          // Held there, so that no row of digits, however long, comes round to a lesser number.
          value = Math.min(TOO_MUCH, 10 * value + tape.byteAt(at) - '0');
          at++;
        }
      } else if (first < 0) {
        token = END;
      } else {
        token = first == ';' ? SEMICOLON : STRANGE;
        at++;
      }
    }

    private static boolean isLetter(int b) {
      return b >= 'a' && b <= 'z';
    }

    private static boolean isDigit(int b) {
      return b >= '0' && b <= '9';
    }
  }

  /** A row of numbers of 8, 16 or 64 bits (with a sign, as Java's own); of 0 bits: MISSING. */
  private static final class Sheet {
    int bits = 0;
    int size = 0;
    final long[] numbers = new long[MOST_NUMBERS];

    Sheet() {
    }

    void begin(int newBits, int newSize) {
      bits = newBits;
      size = newSize;
      for (int i = 0; i < MOST_NUMBERS; i++) {
        numbers[i] = 0;
      }
    }

    boolean isMissing() {
      return bits == 0;
    }

    boolean has(int from, int n) {
      return from >= 0 && n >= 0 && from <= size && n <= size - from;
    }

    boolean mayBeginWith(int v) {
      return size == 0 || numbers[0] == v;
    }

    void put(int i, long v) {
      if (bits == 8) {
        numbers[i] = (byte) v;
      } else if (bits == 16) {
        numbers[i] = (short) v;
      } else {
        numbers[i] = v;
      }
    }
  }
}
