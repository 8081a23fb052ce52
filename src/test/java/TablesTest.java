import java.util.ArrayList;
import java.util.Arrays;
import java.util.List;

/**
 * What the document says of every table, seen on tables: a "no" is borne out by a table that keeps
 * all given dependencies and not the one asked for, a "yes" by many tables that keep all given ones.
 */
public final class TablesTest {
  private static final int CASES = 60;
  private static final Due DUE = new Due("TablesTest");

  private final String name;
  private final Numbers numbers;
  private final List<int[]> given = new ArrayList<>();
  private final List<int[]> singles = new ArrayList<>();

  private TablesTest(int number) {
    name = "case " + number + ": ";
    numbers = new Numbers(number);
    int count = numbers.next(7);
    while (given.size() < count) {
      int[] one = numbers.argumentsFor("give");
      if ((one[0] & ~63) == 0 && (one[1] & ~63) == 0) {
        given.add(one);
      }
    }
    given.stream().filter(one -> one[2] == 0).forEach(singles::add);
  }

  public static void main(String[] args) {
    for (int i = 0; i < CASES; i++) {
      TablesTest test = new TablesTest(i);
      test.whatFollows();
      test.lossless();
      test.preserves();
    }
    DUE.end();
  }

  private static DependencyDesk deskWith(List<int[]> dependencies) {
    DependencyDesk desk = new DependencyDesk();
    for (int[] one : dependencies) {
      desk.give(one[0], one[1], one[2]);
    }
    return desk;
  }

  // ---- tables, and what the document says of them

  private static boolean agree(int[] r, int[] s, int set) {
    for (int c = 0; c < 6; c++) {
      if ((set >> c & 1) == 1 && r[c] != s[c]) {
        return false;
      }
    }
    return true;
  }

  private static boolean has(List<int[]> table, int[] row) {
    return table.stream().anyMatch(other -> Arrays.equals(other, row));
  }

  private static boolean keepsSingle(List<int[]> table, int x, int y) {
    for (int[] r : table) {
      for (int[] s : table) {
        if (agree(r, s, x) && !agree(r, s, y)) {
          return false;
        }
      }
    }
    return true;
  }

  private static int[] mixed(int[] r, int[] s, int fromFirst) {
    int[] row = s.clone();
    for (int c = 0; c < 6; c++) {
      row[c] = (fromFirst >> c & 1) == 1 ? r[c] : s[c];
    }
    return row;
  }

  private static boolean keepsBundled(List<int[]> table, int x, int y) {
    for (int[] r : table) {
      for (int[] s : table) {
        if (agree(r, s, x) && !has(table, mixed(r, s, x | y))) {
          return false;
        }
      }
    }
    return true;
  }

  private static boolean keeps(List<int[]> table, int[] one) {
    return one[2] == 0 ? keepsSingle(table, one[0], one[1]) : keepsBundled(table, one[0], one[1]);
  }

  private static boolean keepsAll(List<int[]> table, List<int[]> dependencies) {
    return dependencies.stream().allMatch(one -> keeps(table, one));
  }

  // ---- tables that keep the given ones

  private static List<int[]> pairAgreeingOn(int set) {
    int[] second = new int[6];
    for (int c = 0; c < 6; c++) {
      second[c] = (set >> c & 1) == 1 ? 0 : 1;
    }
    return List.of(new int[6], second);
  }

  /** A table of a few rows, changed and added to until it keeps the dependencies. */
  private List<int[]> tableKeeping(List<int[]> dependencies) {
    List<int[]> table = new ArrayList<>();
    int rows = 2 + numbers.next(2);
    for (int r = 0; r < rows; r++) {
      int[] row = new int[6];
      for (int c = 0; c < 6; c++) {
        row[c] = numbers.next(3) == 0 ? r : 0;
      }
      table.add(row);
    }
    while (!keepsAll(table, dependencies)) {
      for (int[] one : dependencies) {
        table = one[2] == 0 ? evened(table, one) : filledUp(table, one);
      }
    }
    return table;
  }

  private static List<int[]> evened(List<int[]> table, int[] one) {
    for (int[] r : table) {
      for (int[] s : table) {
        for (int c = 0; c < 6 && agree(r, s, one[0]); c++) {
          if ((one[1] >> c & 1) == 1 && r[c] != s[c]) {
            replace(table, c, r[c], s[c]);
          }
        }
      }
    }
    return different(table);
  }

  private static void replace(List<int[]> table, int c, int old, int now) {
    for (int[] row : table) {
      row[c] = row[c] == old ? now : row[c];
    }
  }

  private static List<int[]> different(List<int[]> table) {
    List<int[]> rows = new ArrayList<>();
    for (int[] row : table) {
      if (!has(rows, row)) {
        rows.add(row);
      }
    }
    return rows;
  }

  private static List<int[]> filledUp(List<int[]> table, int[] one) {
    List<int[]> rows = new ArrayList<>(table);
    for (int[] r : table) {
      for (int[] s : table) {
        int[] row = mixed(r, s, one[0] | one[1]);
        if (agree(r, s, one[0]) && !has(rows, row)) {
          rows.add(row);
        }
      }
    }
    return rows;
  }

  // ---- "A dependency FOLLOWS if every table that keeps all given ones keeps it."

  private void whatFollows() {
    List<List<int[]>> tables = new ArrayList<>();
    for (int set = 0; set < 64; set++) {
      if (keepsAll(pairAgreeingOn(set), given)) {
        tables.add(pairAgreeingOn(set));
      }
    }
    for (int i = 0; i < 4; i++) {
      tables.add(tableKeeping(given));
    }
    for (int x = 0; x < 64; x++) {
      DependencyDesk desk = deskWith(given);
      for (int y = 0; y < 64; y++) {
        int left = x;
        int right = y;
        String both = "(" + x + ", " + y + ")";
        DUE.is(name + "follows" + both, desk.follows(x, y),
            tables.stream().allMatch(table -> keepsSingle(table, left, right)));
        DUE.is(name + "bundles" + both, desk.bundles(x, y),
            tables.stream().allMatch(table -> keepsBundled(table, left, right)));
      }
    }
  }

  // ---- "LOSSLESS if every table that keeps them .. is the set of all rows that on each part agree with some row of it"

  private void lossless() {
    for (int i = 0; i < 6; i++) {
      int[] parts = new int[1 + numbers.next(4)];
      for (int k = 0; k < parts.length; k++) {
        parts[k] = numbers.next(64) | numbers.next(64);
      }
      List<List<int[]>> tables = new ArrayList<>();
      tables.add(tableOfParts(parts));
      for (int k = 0; k < 10; k++) {
        tables.add(different(tableKeeping(singles)));
      }
      DependencyDesk desk = deskWith(given);
      Desks.parts(desk, parts);
      DUE.is(name + "lossless() with " + Arrays.toString(parts), desk.lossless(),
          tables.stream().allMatch(table -> isAllThatAgrees(table, parts)));
    }
  }

  /** Rows that agree with the row of 0s on a part each; where these lose nothing, none lose. */
  private List<int[]> tableOfParts(int[] parts) {
    List<int[]> table = new ArrayList<>();
    for (int k = 0; k < parts.length; k++) {
      int[] row = new int[6];
      for (int c = 0; c < 6; c++) {
        row[c] = (parts[k] >> c & 1) == 1 ? 0 : k + 1;
      }
      table.add(row);
    }
    while (!keepsAll(table, singles)) {
      for (int[] one : singles) {
        table = evened(table, one);
      }
    }
    return different(table);
  }

  /** Looks at all rows with numbers of the table and one more number in each column. */
  private static boolean isAllThatAgrees(List<int[]> table, int[] parts) {
    int numbers = 1 + table.stream().flatMapToInt(Arrays::stream).max().orElse(0) + 1;
    int[] row = new int[6];
    for (int i = 0; i < Math.pow(numbers, 6); i++) {
      int rest = i;
      for (int c = 0; c < 6; c++) {
        row[c] = rest % numbers;
        rest /= numbers;
      }
      boolean agrees = true;
      for (int part : parts) {
        agrees = agrees && table.stream().anyMatch(other -> agree(other, row, part));
      }
      if (agrees != has(table, row)) {
        return false;
      }
    }
    return true;
  }

  // ---- "PRESERVE if every given single dependency follows from single ones that follow, each .. in one part"

  private void preserves() {
    for (int i = 0; i < 6; i++) {
      int[] parts = new int[numbers.next(5)];
      for (int k = 0; k < parts.length; k++) {
        parts[k] = numbers.next(64) | numbers.next(64);
      }
      List<int[]> inParts = singlesInParts(parts);
      boolean due = true;
      for (int set = 0; set < 64; set++) {
        List<int[]> pair = pairAgreeingOn(set);
        due = due && (!keepsAll(pair, inParts) || keepsAll(pair, singles));
      }
      DependencyDesk desk = deskWith(given);
      Desks.parts(desk, parts);
      DUE.is(name + "preserves() with " + Arrays.toString(parts), desk.preserves(), due);
    }
  }

  private List<int[]> singlesInParts(int[] parts) {
    List<int[]> inParts = new ArrayList<>();
    DependencyDesk desk = deskWith(singles);
    for (int x = 0; x < 64; x++) {
      int closure = desk.closure(x);
      for (int part : parts) {
        if ((x & ~part) == 0) {
          inParts.add(new int[] {x, closure & part, 0});
        }
      }
    }
    return inParts;
  }
}
