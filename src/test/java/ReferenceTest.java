import java.util.List;

/** Many runs of calls, the same at every start, on the class and on the reference side by side. */
public final class ReferenceTest {
  private static final int RUNS = 270;

  /** How often each call comes, of 240 calls. */
  private static final Object[] SHARES = {
    "give", 20, "take", 10, "whole", 5, "part", 25, "blank", 1, "row", 5, "write", 24,
    "closure", 15, "follows", 15, "bundles", 15, "needs", 15,
    "keys", 5, "key", 5, "closed", 5, "corners", 5, "stems", 5, "stem", 5,
    "third", 6, "boyce", 6, "fourth", 6, "lossless", 6, "preserves", 6,
    "keeps", 6, "keepsBundled", 6, "discovered", 6, "agreements", 6, "exact", 6,
  };
  private static final Due DUE = new Due("ReferenceTest");

  public static void main(String[] args) {
    for (int i = 0; i < RUNS; i++) {
      anyCalls(i);
    }
    for (int i = 0; i < RUNS; i++) {
      exactTable(RUNS + i);
    }
    DUE.end();
  }

  /** Calls as they come, to the last one that is promised, which is each of the face in turn. */
  private static void anyCalls(int number) {
    Numbers numbers = new Numbers(number);
    Beside both = new Beside(DUE, "run " + number);
    while (both.callsMade() < Beside.MOST_CALLS - 1) {
      String call = anyCall(numbers);
      both.call(call, numbers.argumentsFor(call));
    }
    String last = Beside.FACE[number % Beside.FACE.length];
    both.call(last, numbers.argumentsFor(last));
  }

  private static String anyCall(Numbers numbers) {
    int left = numbers.next(240);
    int i = 0;
    while (left >= (int) SHARES[i + 1]) {
      left -= (int) SHARES[i + 1];
      i += 2;
    }
    return (String) SHARES[i];
  }

  /** Any calls hardly ever make a table exact, so here the dependencies are made for the table. */
  private static void exactTable(int number) {
    String name = "run " + number + ": ";
    Numbers numbers = new Numbers(number);
    DependencyDesk desk = new DependencyDesk();
    Reference reference = new Reference();
    int rows = numbers.next(7);
    int different = 2 + numbers.next(2);
    for (int r = 0; r < rows; r++) {
      desk.row();
      reference.row();
      for (int c = 0; c < 6; c++) {
        int x = numbers.next(different);
        desk.write(r, c, x);
        reference.write(r, c, x);
      }
    }
    List<Integer> base = reference.baseOfTable();
    if (base.size() > 20) {
      return;
    }
    for (int i = 0; i < base.size(); i += 2) {
      DUE.is(name + "exact() too soon", desk.exact(), false);
      desk.give(base.get(i), base.get(i + 1), 0);
    }
    DUE.is(name + "exact() with the base", desk.exact(), true);
    DUE.is(name + "stems() of the base", desk.stems(), base.size() / 2);
    for (int i = 0; i < base.size(); i += 2) {
      DUE.is(name + "stem of the base", desk.stem(i / 2), base.get(i));
    }
    DUE.is(name + "agreements() of the table", desk.agreements(), reference.agreements());
  }
}
