/**
 * Dependencies between the six columns of a table, and what follows from them.
 *
 * Two rows are a table themselves, and which dependencies they keep hangs only on the set of
 * columns in which they agree. A dependency follows from others exactly if every table of two rows
 * that keeps the others keeps it too (Sagiv, Delobel, Parker and Fagin, 1981). So the 64 sets in
 * which two rows can agree decide what the document says of all tables.
 *
 * A long holds a family of sets: bit t is on if set t is in the family.
 */
public final class DependencyDesk {
  public static final int BAD_ARG = -1;
  public static final int FULL = -2;
  public static final int NONE = -3;

  private static final int COLUMNS = 6;
  private static final int SETS = 64;
  private static final int ALL_COLUMNS = 63;
  private static final int MOST_GIVEN = 10;
  private static final int EVERY_GIVEN = 1023;
  private static final int MOST_PARTS = 4;
  private static final int MOST_ROWS = 6;
  private static final int CELLS = 36;
  private static final int MARKS = 24;

  private final int[] left = new int[MOST_GIVEN];
  private final int[] right = new int[MOST_GIVEN];
  private final boolean[] isBundled = new boolean[MOST_GIVEN];
  private int givenCount;

  private final int[] parts = new int[MOST_PARTS];
  private int partCount;

  private final int[] cells = new int[CELLS];
  private int rowCount;

  // Scratch for lossless alone; no answer hangs on what an earlier call left here.
  private final int[] marks = new int[MARKS];

  public DependencyDesk() {
    givenCount = 0;
    partCount = 0;
    rowCount = 0;
  }

  // ---- the given dependencies and what follows from them

  public int give(int x, int y, int bundled) {
    if (!isSet(x) || !isSet(y)) {
      return BAD_ARG;
    }
    if (givenCount >= MOST_GIVEN) {
      return FULL;
    }
    left[givenCount] = x;
    right[givenCount] = y;
    isBundled[givenCount] = bundled != 0;
    givenCount++;
    return givenCount - 1;
  }

  public int take() {
    if (givenCount == 0) {
      return NONE;
    }
    givenCount--;
    return givenCount;
  }

  public int closure(int x) {
    if (!isSet(x)) {
      return BAD_ARG;
    }
    long pairs = pairsKeeping(EVERY_GIVEN);
    return closureIn(pairs, x);
  }

  public boolean follows(int x, int y) {
    if (!isSet(x) || !isSet(y)) {
      return false;
    }
    long pairs = pairsKeeping(EVERY_GIVEN);
    return allKeep(pairs, x, y, false);
  }

  public boolean bundles(int x, int y) {
    if (!isSet(x) || !isSet(y)) {
      return false;
    }
    long pairs = pairsKeeping(EVERY_GIVEN);
    return allKeep(pairs, x, y, true);
  }

  public int needs(int x, int y) {
    if (!isSet(x) || !isSet(y)) {
      return BAD_ARG;
    }
    int least = NONE;
    for (int chosen = 0; chosen < 1 << givenCount; chosen++) {
      int size = sizeOf(chosen);
      if (least == NONE || size < least) {
        long pairs = pairsKeeping(chosen);
        if (allKeep(pairs, x, y, false)) {
          least = size;
        }
      }
    }
    return least;
  }

  // ---- keys, closed sets and stems

  public int keys() {
    long pairs = pairsKeeping(EVERY_GIVEN);
    long found = keysOf(pairs, ALL_COLUMNS);
    return sizeOf(found);
  }

  public int key(int i) {
    long pairs = pairsKeeping(EVERY_GIVEN);
    long found = keysOf(pairs, ALL_COLUMNS);
    return memberAt(found, i);
  }

  public int closed() {
    long pairs = pairsKeeping(EVERY_GIVEN);
    long found = closedSets(pairs);
    return sizeOf(found);
  }

  public int corners() {
    long pairs = pairsKeeping(EVERY_GIVEN);
    long family = closedSets(pairs);
    int count = 0;
    for (int t = 0; t < ALL_COLUMNS; t++) {
      if (isIn(family, t) && meetOfLarger(family, t) != t) {
        count++;
      }
    }
    return count;
  }

  public int stems() {
    long pairs = pairsKeeping(EVERY_GIVEN);
    long found = stemSets(pairs);
    return sizeOf(found);
  }

  public int stem(int i) {
    long pairs = pairsKeeping(EVERY_GIVEN);
    long found = stemSets(pairs);
    return memberAt(found, i);
  }

  // ---- normal forms

  public boolean third(int s) {
    if (!isSet(s)) {
      return false;
    }
    long pairs = pairsKeeping(EVERY_GIVEN);
    long keysOfS = keysOf(pairs, s);
    int keyColumns = unionOf(keysOfS);
    for (int x = 0; x < SETS; x++) {
      if (isWithin(x, s)) {
        int reached = closureIn(pairs, x) & s;
        if (reached != s && !isWithin(reached, x | keyColumns)) {
          return false;
        }
      }
    }
    return true;
  }

  public boolean boyce(int s) {
    if (!isSet(s)) {
      return false;
    }
    long pairs = pairsKeeping(EVERY_GIVEN);
    for (int x = 0; x < SETS; x++) {
      if (isWithin(x, s)) {
        int reached = closureIn(pairs, x) & s;
        if (reached != s && reached != x) {
          return false;
        }
      }
    }
    return true;
  }

  public boolean fourth() {
    long pairs = pairsKeeping(EVERY_GIVEN);
    for (int x = 0; x < SETS; x++) {
      if (closureIn(pairs, x) != ALL_COLUMNS && bundlesMore(pairs, x)) {
        return false;
      }
    }
    return true;
  }

  // ---- parts

  public int part(int s) {
    if (!isSet(s)) {
      return BAD_ARG;
    }
    if (partCount >= MOST_PARTS) {
      return FULL;
    }
    parts[partCount] = s;
    partCount++;
    return partCount;
  }

  public void whole() {
    partCount = 0;
  }

  public boolean lossless() {
    int singles = singleOnes();
    long pairs = pairsKeeping(singles);
    markParts();
    // A round that changes anything leaves fewer different marks: so many rounds reach the end.
    for (int round = 0; round < MARKS; round++) {
      for (int i = 1; i < partCount; i++) {
        for (int j = 0; j < i; j++) {
          equateMarks(pairs, i, j);
        }
      }
    }
    return hasJoinedRow();
  }

  public boolean preserves() {
    int singles = singleOnes();
    long pairs = pairsKeeping(singles);
    for (int d = 0; d < givenCount; d++) {
      if (!isBundled[d]) {
        int reached = reachedWithinParts(pairs, left[d]);
        if (!isWithin(right[d], reached)) {
          return false;
        }
      }
    }
    return true;
  }

  // ---- the table at hand

  public int row() {
    if (rowCount >= MOST_ROWS) {
      return FULL;
    }
    for (int c = 0; c < COLUMNS; c++) {
      cells[rowCount * COLUMNS + c] = 0;
    }
    rowCount++;
    return rowCount - 1;
  }

  public int write(int r, int c, int x) {
    if (r < 0 || r >= rowCount || c < 0 || c >= COLUMNS) {
      return BAD_ARG;
    }
    int before = cells[r * COLUMNS + c];
    cells[r * COLUMNS + c] = x;
    return before;
  }

  public void blank() {
    rowCount = 0;
  }

  public boolean keeps(int x, int y) {
    if (!isSet(x) || !isSet(y)) {
      return false;
    }
    long pairs = agreedSets();
    return allKeep(pairs, x, y, false);
  }

  public boolean keepsBundled(int x, int y) {
    if (!isSet(x) || !isSet(y)) {
      return false;
    }
    for (int r = 0; r < rowCount; r++) {
      for (int s = 0; s < rowCount; s++) {
        int agreed = agreedBy(r, s);
        if (isWithin(x, agreed) && !hasMixedRow(r, s, x | y)) {
          return false;
        }
      }
    }
    return true;
  }

  public int discovered() {
    long pairs = agreedSets();
    int count = 0;
    for (int x = 0; x < SETS; x++) {
      int reached = closureIn(pairs, x) & ~x;
      int fromLess = reachedFromLess(pairs, x);
      count += sizeOf(reached & ~fromLess);
    }
    return count;
  }

  public int agreements() {
    long found = agreedSets();
    return sizeOf(found);
  }

  public boolean exact() {
    long given = pairsKeeping(EVERY_GIVEN);
    long atHand = agreedSets();
    for (int x = 0; x < SETS; x++) {
      if (closureIn(given, x) != closureIn(atHand, x)) {
        return false;
      }
    }
    return true;
  }

  // ---- sets and families of sets

  private static boolean isSet(int x) {
    return x >= 0 && x <= ALL_COLUMNS;
  }

  private static boolean isWithin(int inner, int outer) {
    return (inner & ~outer) == 0;
  }

  private static boolean isIn(long family, int t) {
    return (family >>> t & 1L) != 0L;
  }

  private static int sizeOf(long bits) {
    int count = 0;
    for (int t = 0; t < SETS; t++) {
      if (isIn(bits, t)) {
        count++;
      }
    }
    return count;
  }

  private static int memberAt(long family, int i) {
    int before = 0;
    for (int t = 0; t < SETS; t++) {
      if (isIn(family, t)) {
        if (before == i) {
          return t;
        }
        before++;
      }
    }
    return NONE;
  }

  private static int unionOf(long family) {
    int union = 0;
    for (int t = 0; t < SETS; t++) {
      if (isIn(family, t)) {
        union |= t;
      }
    }
    return union;
  }

  private static int meetOfLarger(long family, int t) {
    int meet = ALL_COLUMNS;
    for (int larger = t + 1; larger < SETS; larger++) {
      if (isIn(family, larger) && isWithin(t, larger)) {
        meet &= larger;
      }
    }
    return meet;
  }

  // ---- pairs of rows, each told by the set in which the two rows agree

  private static boolean pairKeeps(int agreed, int x, int y, boolean bundled) {
    if (!isWithin(x, agreed) || isWithin(y, agreed)) {
      return true;
    }
    // The row that a bundled dependency asks for must be one of the two: the second cannot be it, as
    // they differ on y, and the first is it if they agree on all columns outside x and y.
    return bundled && isWithin(ALL_COLUMNS & ~(x | y), agreed);
  }

  private static boolean allKeep(long pairs, int x, int y, boolean bundled) {
    for (int agreed = 0; agreed < SETS; agreed++) {
      if (isIn(pairs, agreed) && !pairKeeps(agreed, x, y, bundled)) {
        return false;
      }
    }
    return true;
  }

  private static int closureIn(long pairs, int x) {
    int meet = ALL_COLUMNS;
    for (int agreed = 0; agreed < SETS; agreed++) {
      if (isIn(pairs, agreed) && isWithin(x, agreed)) {
        meet &= agreed;
      }
    }
    return meet;
  }

  /** What smaller subsets of x reach: those with one column less reach all of it. */
  private static int reachedFromLess(long pairs, int x) {
    int reached = 0;
    for (int c = 0; c < COLUMNS; c++) {
      if (isIn(x, c)) {
        reached |= closureIn(pairs, x & ~(1 << c));
      }
    }
    return reached;
  }

  private static boolean bundlesMore(long pairs, int x) {
    for (int y = 0; y < SETS; y++) {
      if (!isWithin(y, x) && (x | y) != ALL_COLUMNS && allKeep(pairs, x, y, true)) {
        return true;
      }
    }
    return false;
  }

  private long pairsKeeping(int chosen) {
    long family = 0L;
    for (int agreed = 0; agreed < SETS; agreed++) {
      if (pairKeepsChosen(agreed, chosen)) {
        family |= 1L << agreed;
      }
    }
    return family;
  }

  private boolean pairKeepsChosen(int agreed, int chosen) {
    for (int d = 0; d < givenCount; d++) {
      if (isIn(chosen, d) && !pairKeeps(agreed, left[d], right[d], isBundled[d])) {
        return false;
      }
    }
    return true;
  }

  private int singleOnes() {
    int chosen = 0;
    for (int d = 0; d < givenCount; d++) {
      if (!isBundled[d]) {
        chosen |= 1 << d;
      }
    }
    return chosen;
  }

  // ---- keys, closed sets and stems as families

  private static long keysOf(long pairs, int s) {
    long family = 0L;
    for (int x = 0; x < SETS; x++) {
      if (isWithin(x, s) && isKeyOf(pairs, x, s)) {
        family |= 1L << x;
      }
    }
    return family;
  }

  private static boolean isKeyOf(long pairs, int x, int s) {
    if ((closureIn(pairs, x) & s) != s) {
      return false;
    }
    // A larger set never reaches less, so leaving out one column at a time is enough.
    for (int c = 0; c < COLUMNS; c++) {
      if (isIn(x, c) && (closureIn(pairs, x & ~(1 << c)) & s) == s) {
        return false;
      }
    }
    return true;
  }

  private static long closedSets(long pairs) {
    long family = 0L;
    for (int x = 0; x < SETS; x++) {
      if (closureIn(pairs, x) == x) {
        family |= 1L << x;
      }
    }
    return family;
  }

  private static long stemSets(long pairs) {
    long family = 0L;
    for (int p = 0; p < SETS; p++) {
      if (closureIn(pairs, p) != p && hasClosuresOfStems(pairs, family, p)) {
        family |= 1L << p;
      }
    }
    return family;
  }

  /** A smaller subset has a smaller number, so the stems below p tell all that p hangs on. */
  private static boolean hasClosuresOfStems(long pairs, long stemsBelow, int p) {
    for (int q = 0; q < p; q++) {
      if (isIn(stemsBelow, q) && isWithin(q, p)) {
        int reached = closureIn(pairs, q);
        if (!isWithin(reached, p)) {
          return false;
        }
      }
    }
    return true;
  }

  // ---- the parts: a table with a row for each part, which tells whether they are lossless

  /** Mark 0 is the number of a row that agrees with row i on part i; every other number differs
   *  from row to row until the dependencies make two of them the same. */
  private void markParts() {
    for (int i = 0; i < partCount; i++) {
      for (int c = 0; c < COLUMNS; c++) {
        marks[i * COLUMNS + c] = isIn(parts[i], c) ? 0 : i + 1;
      }
    }
  }

  private void equateMarks(long pairs, int i, int j) {
    int agreed = 0;
    for (int c = 0; c < COLUMNS; c++) {
      if (marks[i * COLUMNS + c] == marks[j * COLUMNS + c]) {
        agreed |= 1 << c;
      }
    }
    int reached = closureIn(pairs, agreed);
    for (int c = 0; c < COLUMNS; c++) {
      if (isIn(reached, c)) {
        mergeMarks(c, marks[i * COLUMNS + c], marks[j * COLUMNS + c]);
      }
    }
  }

  /** The lesser mark stays, so that mark 0 is never lost. */
  private void mergeMarks(int c, int one, int other) {
    int stays = one < other ? one : other;
    for (int i = 0; i < partCount; i++) {
      int mark = marks[i * COLUMNS + c];
      if (mark == one || mark == other) {
        marks[i * COLUMNS + c] = stays;
      }
    }
  }

  private boolean hasJoinedRow() {
    for (int i = 0; i < partCount; i++) {
      int joined = 0;
      for (int c = 0; c < COLUMNS; c++) {
        if (marks[i * COLUMNS + c] == 0) {
          joined |= 1 << c;
        }
      }
      if (joined == ALL_COLUMNS) {
        return true;
      }
    }
    return false;
  }

  private int reachedWithinParts(long pairs, int x) {
    int reached = x;
    // A round without a gain ends all gain, and there are only six columns to gain.
    for (int round = 0; round < COLUMNS; round++) {
      for (int i = 0; i < partCount; i++) {
        reached |= closureIn(pairs, reached & parts[i]) & parts[i];
      }
    }
    return reached;
  }

  // ---- the rows at hand

  private int agreedBy(int r, int s) {
    int agreed = 0;
    for (int c = 0; c < COLUMNS; c++) {
      if (cells[r * COLUMNS + c] == cells[s * COLUMNS + c]) {
        agreed |= 1 << c;
      }
    }
    return agreed;
  }

  private long agreedSets() {
    long family = 0L;
    for (int r = 1; r < rowCount; r++) {
      for (int s = 0; s < r; s++) {
        family |= 1L << agreedBy(r, s);
      }
    }
    return family;
  }

  private boolean hasMixedRow(int r, int s, int fromFirst) {
    for (int t = 0; t < rowCount; t++) {
      int first = agreedBy(t, r);
      int second = agreedBy(t, s);
      if (isWithin(fromFirst, first) && isWithin(ALL_COLUMNS & ~fromFirst, second)) {
        return true;
      }
    }
    return false;
  }
}
