/** A sequence of numbers that is the same at every start, so that a failure comes again. */
final class Numbers {
  private static final int[] ODD = {-1, 64, 100, Integer.MIN_VALUE, Integer.MAX_VALUE};

  private long state;
  private final int bundledOnes;
  private final int inTheTable;

  Numbers(int seed) {
    state = seed * 0x9E3779B97F4A7C15L + 1;
    bundledOnes = next(4);
    inTheTable = 2 + next(3);
  }

  int next(int bound) {
    state = state * 6364136223846793005L + 1442695040888963407L;
    return (int) ((state >>> 33) % bound);
  }

  /** Arguments for the call, now and then such as it refuses. */
  int[] argumentsFor(String call) {
    return switch (call) {
      case "give" -> new int[] {set(), set(), bundled()};
      case "closure" -> new int[] {set()};
      case "follows", "bundles", "needs", "keeps", "keepsBundled" -> new int[] {set(), set()};
      case "key", "stem" -> new int[] {index()};
      case "third", "boyce" -> new int[] {next(2) == 0 ? set() : largeSet()};
      case "part" -> new int[] {next(4) == 0 ? set() : largeSet()};
      case "write" -> new int[] {index(), index(), next(inTheTable)};
      default -> new int[0];
    };
  }

  /** Dependencies with few columns leave more to ask for than those with many. */
  private int set() {
    int kind = next(40);
    return kind == 0 ? odd() : kind < 24 ? smallSet() : next(64);
  }

  private int smallSet() {
    int columns = next(4);
    int set = 0;
    for (int i = 0; i < columns; i++) {
      set |= 1 << next(6);
    }
    return set;
  }

  private int largeSet() {
    return next(64) | next(64);
  }

  private int index() {
    return next(20) == 0 ? odd() : next(8);
  }

  private int odd() {
    return ODD[next(ODD.length)];
  }

  private int bundled() {
    return next(4) < bundledOnes ? 1 + next(5) : 0;
  }
}
