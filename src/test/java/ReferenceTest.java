import java.util.List;

/** Many runs of calls, the same at every start, on the class and on the reference side by side. */
public final class ReferenceTest {
  private static final int RUNS = 250;
  private static final int CALLS = 512;
  private static final int[] ODD_SETS = {-1, 64, 100, Integer.MIN_VALUE, Integer.MAX_VALUE};
  private static final Due DUE = new Due("ReferenceTest");

  private long state;
  private final String name;
  private final DependencyDesk desk = new DependencyDesk();
  private final Reference reference = new Reference();

  private ReferenceTest(int number) {
    name = "run " + number + ": ";
    state = number * 0x9E3779B97F4A7C15L + 1;
  }

  public static void main(String[] args) {
    for (int i = 0; i < RUNS; i++) {
      new ReferenceTest(i).anyCalls();
    }
    for (int i = 0; i < RUNS; i++) {
      new ReferenceTest(RUNS + i).exactTables();
    }
    DUE.end();
  }

  /** A fixed sequence of numbers below the bound, so that a failure comes again. */
  private int next(int bound) {
    state = state * 6364136223846793005L + 1442695040888963407L;
    return (int) ((state >>> 33) % bound);
  }

  private int oneOf(int[] choice) {
    return choice[next(choice.length)];
  }

  private int smallSet() {
    int columns = next(4);
    int set = 0;
    for (int i = 0; i < columns; i++) {
      set |= 1 << next(6);
    }
    return set;
  }

  private int set() {
    int kind = next(40);
    return kind == 0 ? oneOf(ODD_SETS) : kind < 24 ? smallSet() : next(64);
  }

  private int index() {
    return next(20) == 0 ? oneOf(ODD_SETS) : next(8);
  }

  private void anyCalls() {
    int numbers = 1 + next(3);
    int bundledOnes = next(4);
    for (int i = 0; i < CALLS; i++) {
      int kind = next(8);
      if (kind == 0) {
        changeGiven(bundledOnes);
      } else if (kind == 1) {
        changeParts();
      } else if (kind == 2) {
        changeTable(numbers);
      } else if (kind < 5) {
        askGiven();
      } else if (kind == 5) {
        askFamilies();
      } else if (kind == 6) {
        askFormsAndParts();
      } else {
        askTable();
      }
    }
  }

  private void changeGiven(int bundledOnes) {
    if (next(3) == 0) {
      DUE.is(name + "take()", desk.take(), reference.take());
      return;
    }
    int x = set();
    int y = set();
    int bundled = next(4) < bundledOnes ? 1 + next(5) : 0;
    DUE.is(name + "give(" + x + ", " + y + ", " + bundled + ")", desk.give(x, y, bundled), reference.give(x, y, bundled));
  }

  private void changeParts() {
    if (next(6) == 0) {
      desk.whole();
      reference.whole();
      return;
    }
    int s = next(4) == 0 ? set() : next(64) | next(64);
    DUE.is(name + "part(" + s + ")", desk.part(s), reference.part(s));
  }

  private void changeTable(int numbers) {
    int kind = next(30);
    if (kind == 0) {
      desk.blank();
      reference.blank();
    } else if (kind < 6) {
      DUE.is(name + "row()", desk.row(), reference.row());
    } else {
      int r = index();
      int c = index();
      int x = next(numbers + 1);
      DUE.is(name + "write(" + r + ", " + c + ", " + x + ")", desk.write(r, c, x), reference.write(r, c, x));
    }
  }

  private void askGiven() {
    int x = set();
    int y = set();
    String both = "(" + x + ", " + y + ")";
    switch (next(4)) {
      case 0 -> DUE.is(name + "closure(" + x + ")", desk.closure(x), reference.closure(x));
      case 1 -> DUE.is(name + "follows" + both, desk.follows(x, y), reference.follows(x, y));
      case 2 -> DUE.is(name + "bundles" + both, desk.bundles(x, y), reference.bundles(x, y));
      default -> DUE.is(name + "needs" + both, desk.needs(x, y), reference.needs(x, y));
    }
  }

  private void askFamilies() {
    int i = index();
    switch (next(6)) {
      case 0 -> DUE.is(name + "keys()", desk.keys(), reference.keys());
      case 1 -> DUE.is(name + "key(" + i + ")", desk.key(i), reference.key(i));
      case 2 -> DUE.is(name + "closed()", desk.closed(), reference.closed());
      case 3 -> DUE.is(name + "corners()", desk.corners(), reference.corners());
      case 4 -> DUE.is(name + "stems()", desk.stems(), reference.stems());
      default -> DUE.is(name + "stem(" + i + ")", desk.stem(i), reference.stem(i));
    }
  }

  private void askFormsAndParts() {
    int s = next(2) == 0 ? set() : next(64) | next(64);
    switch (next(5)) {
      case 0 -> DUE.is(name + "third(" + s + ")", desk.third(s), reference.third(s));
      case 1 -> DUE.is(name + "boyce(" + s + ")", desk.boyce(s), reference.boyce(s));
      case 2 -> DUE.is(name + "fourth()", desk.fourth(), reference.fourth());
      case 3 -> DUE.is(name + "lossless()", desk.lossless(), reference.lossless());
      default -> DUE.is(name + "preserves()", desk.preserves(), reference.preserves());
    }
  }

  private void askTable() {
    int x = set();
    int y = set();
    String both = "(" + x + ", " + y + ")";
    switch (next(5)) {
      case 0 -> DUE.is(name + "keeps" + both, desk.keeps(x, y), reference.keeps(x, y));
      case 1 -> DUE.is(name + "keepsBundled" + both, desk.keepsBundled(x, y), reference.keepsBundled(x, y));
      case 2 -> DUE.is(name + "discovered()", desk.discovered(), reference.discovered());
      case 3 -> DUE.is(name + "agreements()", desk.agreements(), reference.agreements());
      default -> DUE.is(name + "exact()", desk.exact(), reference.exact());
    }
  }

  /** Any calls hardly ever make a table exact, so here the dependencies are made for the table. */
  private void exactTables() {
    int rows = next(7);
    int numbers = 2 + next(2);
    for (int r = 0; r < rows; r++) {
      desk.row();
      reference.row();
      for (int c = 0; c < 6; c++) {
        int x = next(numbers);
        desk.write(r, c, x);
        reference.write(r, c, x);
      }
    }
    List<Integer> base = reference.baseOfTable();
    if (base.size() > 20) {
      return;
    }
    for (int i = 0; i < base.size(); i += 2) {
      DUE.is(name + "exact() too soon", desk.exact(), false);
      desk.give(base.get(i), base.get(i + 1), 0);
    }
    DUE.is(name + "exact() with the base", desk.exact(), true);
    DUE.is(name + "stems() of the base", desk.stems(), base.size() / 2);
    for (int i = 0; i < base.size(); i += 2) {
      DUE.is(name + "stem of the base", desk.stem(i / 2), base.get(i));
    }
    DUE.is(name + "agreements() of the table", desk.agreements(), reference.agreements());
  }
}
