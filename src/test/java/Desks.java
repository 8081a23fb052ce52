/** Makes objects and fills them, for the tests. */
final class Desks {
  static final int MIN = Integer.MIN_VALUE;
  static final int MAX = Integer.MAX_VALUE;
  static final int[] NO_SETS = {-1, 64, 65, 127, 128, -64, 1 << 16, MIN, MAX};

  /** Ten dependencies (left, right, bundled), none of which can be spared for 0 -> 47. */
  static final int[][] TEN = {
    {59, 29, 0}, {25, 19, 0}, {42, 19, 0}, {4, 33, 1}, {0, 28, 1},
    {4, 32, 1}, {4, 51, 1}, {31, 32, 0}, {55, 63, 0}, {1, 57, 1},
  };

  /** Six rows of which no two pairs agree on the same set. */
  static final String[] SIX_ROWS = {"022201", "011102", "010122", "212202", "200201", "221222"};

  private Desks() {}

  static DependencyDesk singles(int... leftAndRight) {
    DependencyDesk desk = new DependencyDesk();
    for (int i = 0; i < leftAndRight.length; i += 2) {
      desk.give(leftAndRight[i], leftAndRight[i + 1], 0);
    }
    return desk;
  }

  static DependencyDesk bundled(int... leftAndRight) {
    DependencyDesk desk = new DependencyDesk();
    for (int i = 0; i < leftAndRight.length; i += 2) {
      desk.give(leftAndRight[i], leftAndRight[i + 1], 1);
    }
    return desk;
  }

  /** Each column reaches the next one, and the last one the first. */
  static DependencyDesk ring() {
    return singles(1, 2, 2, 4, 4, 8, 8, 16, 16, 32, 32, 1);
  }

  static void parts(DependencyDesk desk, int... sets) {
    desk.whole();
    for (int set : sets) {
      desk.part(set);
    }
  }

  /** Appends a row for each text, whose six numbers are the digits of the text, column 0 first. */
  static void rows(DependencyDesk desk, String... digits) {
    for (String text : digits) {
      int r = desk.row();
      for (int c = 0; c < 6; c++) {
        desk.write(r, c, text.charAt(c) - '0');
      }
    }
  }

  static DependencyDesk withRows(String... digits) {
    DependencyDesk desk = new DependencyDesk();
    rows(desk, digits);
    return desk;
  }
}
