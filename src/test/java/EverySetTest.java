/** Every call with every set it can have, on objects that hold all kinds of things. */
public final class EverySetTest {
  private static final int STATES = 24;
  private static final Due DUE = new Due("EverySetTest");

  public static void main(String[] args) {
    everyDependencyAlone();
    everyPart();
    for (int seed = 0; seed < STATES; seed++) {
      oneSet(seed);
      everyNumber(seed);
      twoSets(seed);
    }
    needs();
    DUE.end();
  }

  // ---- what one dependency says, told without the reference

  private static void everyDependencyAlone() {
    for (int x = 0; x < 64; x++) {
      for (int y = 0; y < 64; y++) {
        single(x, y);
        bundled(x, y);
      }
    }
  }

  private static boolean within(int inner, int outer) {
    return (inner & ~outer) == 0;
  }

  private static void single(int x, int y) {
    String one = x + " -> " + y + ": ";
    DependencyDesk desk = new DependencyDesk();
    DUE.is(one + "give", desk.give(x, y, 0), 0);
    int lost = 0;
    for (int z = 0; z < 64; z++) {
      lost += within(x, z) && !within(y, z) ? 1 : 0;
    }
    DUE.is(one + "closure of its left side", desk.closure(x), x | y);
    DUE.is(one + "follows", desk.follows(x, y), true);
    DUE.is(one + "bundles", desk.bundles(x, y), true);
    DUE.is(one + "needs", desk.needs(x, y), within(y, x) ? 0 : 1);
    DUE.is(one + "closed()", desk.closed(), 64 - lost);
    DUE.is(one + "keys()", desk.keys(), 1);
    DUE.is(one + "key(0)", desk.key(0), 63 & ~(y & ~x));
    DUE.is(one + "stems()", desk.stems(), within(y, x) ? 0 : 1);
    DUE.is(one + "stem(0)", desk.stem(0), within(y, x) ? -3 : x);
    DUE.is(one + "fourth()", desk.fourth(), within(y, x) || (x | y) == 63);
    DUE.is(one + "preserves() without a part", desk.preserves(), within(y, x));
    desk.part(x | y);
    DUE.is(one + "preserves() with a part", desk.preserves(), true);
    desk.part(63 & ~(y & ~x));
    DUE.is(one + "lossless()", desk.lossless(), true);
    DUE.is(one + "take()", desk.take(), 0);
    DUE.is(one + "closure of its left side, taken away", desk.closure(x), x);
  }

  private static void bundled(int x, int y) {
    String one = x + " ->> " + y + ": ";
    DependencyDesk desk = new DependencyDesk();
    DUE.is(one + "give", desk.give(x, y, 1), 0);
    boolean saysNothing = within(y, x) || (x | y) == 63;
    DUE.is(one + "closure of its left side", desk.closure(x), x);
    DUE.is(one + "follows", desk.follows(x, y), within(y, x));
    DUE.is(one + "bundles", desk.bundles(x, y), true);
    DUE.is(one + "bundles the rest", desk.bundles(x, 63 & ~(x | y)), true);
    DUE.is(one + "closed()", desk.closed(), 64);
    DUE.is(one + "fourth()", desk.fourth(), saysNothing);
    DUE.is(one + "preserves() without a part", desk.preserves(), true);
    desk.part(x | y);
    desk.part(63 & ~(y & ~x));
    DUE.is(one + "lossless()", desk.lossless(), saysNothing);
    DUE.is(one + "take()", desk.take(), 0);
    DUE.is(one + "bundles, taken away", desk.bundles(x, y), saysNothing);
  }

  private static void everyPart() {
    for (int s = 0; s < 64; s++) {
      for (int t = 0; t < 64; t++) {
        DependencyDesk desk = Desks.singles(s & t, s);
        String both = "parts " + s + " and " + t + ": ";
        DUE.is(both + "one", desk.part(s), 1);
        DUE.is(both + "one is lossless", desk.lossless(), s == 63);
        DUE.is(both + "two", desk.part(t), 2);
        DUE.is(both + "two are lossless", desk.lossless(), (s | t) == 63);
        DUE.is(both + "they preserve", desk.preserves(), true);
        desk.take();
        boolean hasOneOfAll = s == 63 || t == 63;
        DUE.is(both + "two are lossless, none given", desk.lossless(), hasOneOfAll);
      }
    }
  }

  // ---- all kinds of states, beside the reference

  private static Beside filled(String run, int seed) {
    Numbers numbers = new Numbers(seed);
    Beside both = new Beside(DUE, run + " " + seed);
    for (int i = 0; i < seed % 9; i++) {
      both.call("give", numbers.argumentsFor("give"));
    }
    for (int r = 0; r < seed % 7; r++) {
      both.call("row");
      for (int c = 0; c < 6; c++) {
        both.call("write", r, c, numbers.next(2 + seed % 2));
      }
    }
    return both;
  }

  private static void oneSet(int seed) {
    Beside both = filled("one set", seed);
    for (int s = 0; s < 64; s++) {
      both.call("closure", s);
      both.call("third", s);
      both.call("boyce", s);
    }
    Beside parts = filled("one part", seed);
    for (int s = 0; s < 64; s++) {
      parts.call("whole");
      parts.call("part", s);
      parts.call("part", 63 & ~s | seed);
      parts.call("lossless");
      parts.call("preserves");
    }
  }

  private static void everyNumber(int seed) {
    Beside both = filled("key and stem", seed);
    both.call("keys");
    both.call("stems");
    for (int i = -1; i <= 64; i++) {
      both.call("key", i);
      both.call("stem", i);
    }
  }

  private static void twoSets(int seed) {
    for (int x = 0; x < 64; x++) {
      Beside both = filled("two sets", seed);
      for (int y = 0; y < 64; y++) {
        both.call("follows", x, y);
        both.call("bundles", x, y);
        both.call("keeps", x, y);
        both.call("keepsBundled", x, y);
      }
    }
  }

  /** The reference counts out every choice of dependencies, so few of them are given here. */
  private static void needs() {
    for (int seed : new int[] {21, 30, 39, 40, 49}) {
      for (int x = 0; x < 64; x++) {
        Beside both = filled("needs", seed);
        for (int y = 0; y < 64; y++) {
          both.call("needs", x, y);
        }
      }
    }
  }
}
