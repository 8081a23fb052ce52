import java.util.ArrayList;
import java.util.HashSet;
import java.util.List;
import java.util.Set;

/**
 * The document once more, by other means than the class under test: what follows is found by the
 * chase, a table that grows and shrinks until it keeps the dependencies, and the rest is counted
 * out word by word.
 */
final class Reference {
  private record Dependency(int left, int right, boolean bundled) {}

  /** The end of a chase from two rows: which of the 64 mixed rows are there, which columns fell together. */
  private record Chased(boolean[] rows, int same) {}

  private final List<Dependency> given = new ArrayList<>();
  private final List<Integer> parts = new ArrayList<>();
  private final List<int[]> rows = new ArrayList<>();
  private Chased[] known = new Chased[64];

  private static boolean isSet(int x) {
    return x >= 0 && x < 64;
  }

  private static boolean within(int inner, int outer) {
    return (inner | outer) == outer;
  }

  private static boolean has(int set, int c) {
    return within(1 << c, set);
  }

  // ---- the chase

  /** Row w has, in each column, the number of the first row (bit 0) or of the second (bit 1). */
  private static Chased chase(int x, List<Dependency> dependencies) {
    boolean[] there = new boolean[64];
    there[0] = true;
    there[63 - x] = true;
    int same = x;
    boolean changed = true;
    while (changed) {
      changed = false;
      for (Dependency d : dependencies) {
        for (int u = 0; u < 64; u++) {
          for (int v = 0; v < 64 && there[u]; v++) {
            if (!there[v] || ((u ^ v) & d.left()) != 0) {
              continue;
            }
            int mixed = u & (d.left() | d.right()) | v & ~(d.left() | d.right());
            int differ = (u ^ v) & d.right();
            if (d.bundled() && !there[mixed]) {
              there[mixed] = true;
              changed = true;
            } else if (!d.bundled() && differ != 0) {
              same |= differ;
              there = without(there, differ);
              changed = true;
            }
          }
        }
      }
    }
    return new Chased(there, same);
  }

  private static boolean[] without(boolean[] there, int columns) {
    boolean[] left = new boolean[64];
    for (int u = 0; u < 64; u++) {
      if (there[u]) {
        left[u & ~columns] = true;
      }
    }
    return left;
  }

  private Chased chased(int x) {
    if (known[x] == null) {
      known[x] = chase(x, given);
    }
    return known[x];
  }

  private int reach(int x) {
    return chased(x).same();
  }

  private boolean bundled(int x, int y) {
    int asked = 63 & ~(x | y) & ~reach(x);
    return chased(x).rows()[asked];
  }

  // ---- given

  int give(int x, int y, int bundled) {
    if (!isSet(x) || !isSet(y)) {
      return -1;
    }
    if (given.size() == 10) {
      return -2;
    }
    given.add(new Dependency(x, y, bundled != 0));
    known = new Chased[64];
    return given.size() - 1;
  }

  int take() {
    if (given.isEmpty()) {
      return -3;
    }
    given.remove(given.size() - 1);
    known = new Chased[64];
    return given.size();
  }

  int closure(int x) {
    return isSet(x) ? reach(x) : -1;
  }

  boolean follows(int x, int y) {
    return isSet(x) && isSet(y) && within(y, reach(x));
  }

  boolean bundles(int x, int y) {
    return isSet(x) && isSet(y) && bundled(x, y);
  }

  int needs(int x, int y) {
    if (!isSet(x) || !isSet(y)) {
      return -1;
    }
    if (!follows(x, y)) {
      return -3;
    }
    for (int size = 0; ; size++) {
      for (int chosen = 0; chosen < 1 << given.size(); chosen++) {
        if (Integer.bitCount(chosen) == size && within(y, chase(x, chosenOnes(chosen)).same())) {
          return size;
        }
      }
    }
  }

  private List<Dependency> chosenOnes(int chosen) {
    List<Dependency> ones = new ArrayList<>();
    for (int d = 0; d < given.size(); d++) {
      if (has(chosen, d)) {
        ones.add(given.get(d));
      }
    }
    return ones;
  }

  // ---- keys, closed sets, stems

  private List<Integer> keysOf(int s) {
    List<Integer> found = new ArrayList<>();
    for (int x = 0; x < 64; x++) {
      boolean isKey = within(x, s) && within(s, reach(x));
      for (int k : found) {
        isKey = isKey && !within(k, x);
      }
      if (isKey) {
        found.add(x);
      }
    }
    return found;
  }

  int keys() {
    return keysOf(63).size();
  }

  int key(int i) {
    List<Integer> found = keysOf(63);
    return i >= 0 && i < found.size() ? found.get(i) : -3;
  }

  private boolean isClosed(int x) {
    return reach(x) == x;
  }

  int closed() {
    int count = 0;
    for (int x = 0; x < 64; x++) {
      count += isClosed(x) ? 1 : 0;
    }
    return count;
  }

  /** A closed set is a meet of larger ones unless there is just one next larger one. */
  int corners() {
    int count = 0;
    for (int x = 0; x < 63; x++) {
      if (isClosed(x)) {
        int next = 0;
        for (int y = 0; y < 64; y++) {
          next += isNext(x, y) ? 1 : 0;
        }
        count += next == 1 ? 1 : 0;
      }
    }
    return count;
  }

  private boolean isNext(int x, int y) {
    if (x == y || !within(x, y) || !isClosed(y)) {
      return false;
    }
    for (int between = 0; between < 64; between++) {
      if (between != x && between != y && within(x, between) && within(between, y) && isClosed(between)) {
        return false;
      }
    }
    return true;
  }

  private List<Integer> stemList() {
    boolean[] isStem = new boolean[64];
    for (int size = 0; size <= 6; size++) {
      for (int p = 0; p < 64; p++) {
        if (Integer.bitCount(p) == size && !isClosed(p)) {
          isStem[p] = true;
          for (int q = 0; q < 64; q++) {
            if (q != p && within(q, p) && isStem[q] && !within(reach(q), p)) {
              isStem[p] = false;
            }
          }
        }
      }
    }
    List<Integer> found = new ArrayList<>();
    for (int p = 0; p < 64; p++) {
      if (isStem[p]) {
        found.add(p);
      }
    }
    return found;
  }

  int stems() {
    return stemList().size();
  }

  int stem(int i) {
    List<Integer> found = stemList();
    return i >= 0 && i < found.size() ? found.get(i) : -3;
  }

  // ---- normal forms

  boolean third(int s) {
    if (!isSet(s)) {
      return false;
    }
    List<Integer> keysOfS = keysOf(s);
    for (int x = 0; x < 64; x++) {
      for (int c = 0; c < 6 && within(x, s); c++) {
        if (has(s, c) && has(reach(x), c) && !has(x, c) && !within(s, reach(x))) {
          int column = c;
          if (keysOfS.stream().noneMatch(k -> has(k, column))) {
            return false;
          }
        }
      }
    }
    return true;
  }

  boolean boyce(int s) {
    if (!isSet(s)) {
      return false;
    }
    for (int x = 0; x < 64; x++) {
      if (within(x, s) && !within(reach(x) & s, x) && !within(s, reach(x))) {
        return false;
      }
    }
    return true;
  }

  boolean fourth() {
    for (int x = 0; x < 64; x++) {
      for (int y = 0; y < 64; y++) {
        if (bundled(x, y) && !within(y, x) && (x | y) != 63 && reach(x) != 63) {
          return false;
        }
      }
    }
    return true;
  }

  // ---- parts

  int part(int s) {
    if (!isSet(s)) {
      return -1;
    }
    if (parts.size() == 4) {
      return -2;
    }
    parts.add(s);
    return parts.size();
  }

  void whole() {
    parts.clear();
  }

  private List<Dependency> singles() {
    List<Dependency> ones = new ArrayList<>();
    for (Dependency d : given) {
      if (!d.bundled()) {
        ones.add(d);
      }
    }
    return ones;
  }

  /** Makes the table in which row i agrees with the row of 0s on part i and is otherwise as free as
   *  the dependencies let it; the parts are lossless just if the row of 0s is in that table. */
  boolean lossless() {
    int[][] table = new int[parts.size()][6];
    for (int i = 0; i < table.length; i++) {
      for (int c = 0; c < 6; c++) {
        table[i][c] = has(parts.get(i), c) ? 0 : 10 * (i + 1) + c;
      }
    }
    boolean changed = true;
    while (changed) {
      changed = false;
      for (Dependency d : singles()) {
        for (int[] r : table) {
          for (int[] s : table) {
            changed |= within(d.left(), agreed(r, s)) && makeEqual(table, r, s, d.right());
          }
        }
      }
    }
    for (int[] r : table) {
      if (agreed(r, new int[6]) == 63) {
        return true;
      }
    }
    return false;
  }

  private static boolean makeEqual(int[][] table, int[] r, int[] s, int columns) {
    boolean changed = false;
    for (int c = 0; c < 6; c++) {
      if (has(columns, c) && r[c] != s[c]) {
        int from = Math.max(r[c], s[c]);
        int to = Math.min(r[c], s[c]);
        for (int[] t : table) {
          t[c] = t[c] == from ? to : t[c];
        }
        changed = true;
      }
    }
    return changed;
  }

  boolean preserves() {
    List<Dependency> inParts = new ArrayList<>();
    for (int p : parts) {
      for (int x = 0; x < 64; x++) {
        if (within(x, p)) {
          inParts.add(new Dependency(x, chase(x, singles()).same() & p, false));
        }
      }
    }
    for (Dependency d : singles()) {
      if (!within(d.right(), chase(d.left(), inParts).same())) {
        return false;
      }
    }
    return true;
  }

  // ---- the table at hand

  int row() {
    if (rows.size() == 6) {
      return -2;
    }
    rows.add(new int[6]);
    return rows.size() - 1;
  }

  int write(int r, int c, int x) {
    if (r < 0 || r >= rows.size() || c < 0 || c >= 6) {
      return -1;
    }
    int before = rows.get(r)[c];
    rows.get(r)[c] = x;
    return before;
  }

  void blank() {
    rows.clear();
  }

  private static int agreed(int[] r, int[] s) {
    int set = 0;
    for (int c = 0; c < 6; c++) {
      if (r[c] == s[c]) {
        set += 1 << c;
      }
    }
    return set;
  }

  boolean keeps(int x, int y) {
    if (!isSet(x) || !isSet(y)) {
      return false;
    }
    for (int[] r : rows) {
      for (int[] s : rows) {
        if (within(x, agreed(r, s)) && !within(y, agreed(r, s))) {
          return false;
        }
      }
    }
    return true;
  }

  boolean keepsBundled(int x, int y) {
    if (!isSet(x) || !isSet(y)) {
      return false;
    }
    for (int[] r : rows) {
      for (int[] s : rows) {
        boolean found = !within(x, agreed(r, s));
        for (int[] t : rows) {
          found |= within(x, agreed(t, r)) && within(y, agreed(t, r)) && within(63 - (x | y), agreed(t, s));
        }
        if (!found) {
          return false;
        }
      }
    }
    return true;
  }

  int discovered() {
    int count = 0;
    for (int x = 0; x < 64; x++) {
      for (int c = 0; c < 6; c++) {
        boolean isNew = !has(x, c) && keeps(x, 1 << c);
        for (int less = 0; less < x; less++) {
          isNew = isNew && !(within(less, x) && keeps(less, 1 << c));
        }
        count += isNew ? 1 : 0;
      }
    }
    return count;
  }

  int agreements() {
    Set<Integer> found = new HashSet<>();
    for (int r = 0; r < rows.size(); r++) {
      for (int s = 0; s < rows.size(); s++) {
        if (r != s) {
          found.add(agreed(rows.get(r), rows.get(s)));
        }
      }
    }
    return found.size();
  }

  boolean exact() {
    for (int x = 0; x < 64; x++) {
      for (int y = 0; y < 64; y++) {
        if (keeps(x, y) != follows(x, y)) {
          return false;
        }
      }
    }
    return true;
  }

  /** Dependencies, left and right in turn, that make the table at hand exact and of which none can
   *  be spared: from each stem of what the table keeps to all that it reaches there. */
  List<Integer> baseOfTable() {
    Reference kept = new Reference();
    for (int x = 0; x < 64; x++) {
      int reached = 0;
      for (int c = 0; c < 6; c++) {
        reached |= keeps(x, 1 << c) ? 1 << c : 0;
      }
      kept.known[x] = new Chased(new boolean[64], reached);
    }
    List<Integer> base = new ArrayList<>();
    for (int p : kept.stemList()) {
      base.add(p);
      base.add(kept.reach(p));
    }
    return base;
  }
}
