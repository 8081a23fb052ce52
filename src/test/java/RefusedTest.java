import java.lang.reflect.InvocationTargetException;
import java.lang.reflect.Method;
import java.util.Arrays;
import java.util.List;

/** "No call ever throws. A refused call answers the code named and changes nothing." */
public final class RefusedTest {
  private static final int BAD_ARG = -1;
  private static final int FULL = -2;
  private static final int NONE = -3;
  private static final int NO = 0;
  private static final int MIN = Desks.MIN;
  private static final int MAX = Desks.MAX;

  /** 715827883 rows of six columns wrap around to two cells more than none. */
  private static final int WRAPS = 715827883;
  private static final int[] ANY = {
    MIN, MIN + 1, -65, -64, -6, -1, 0, 1, 3, 4, 5, 6, 10, 62, 63, 64, 65, 256, 1 << 30, WRAPS, MAX,
  };
  private static final Due DUE = new Due("RefusedTest");

  private interface Call {
    long on(DependencyDesk desk);
  }

  /** How far an object is filled. */
  private enum State {
    NEW(0) {
      @Override
      DependencyDesk make() {
        return new DependencyDesk();
      }
    },
    PARTLY(2) {
      @Override
      DependencyDesk make() {
        DependencyDesk desk = new DependencyDesk();
        desk.give(1, 6, 0);
        desk.give(4, 24, 1);
        desk.give(2, 32, 0);
        Desks.parts(desk, 39, 25);
        Desks.rows(desk, "123456", "163452");
        return desk;
      }
    },
    /** Each part is needed, lest something be lost. */
    LINE(0) {
      @Override
      DependencyDesk make() {
        DependencyDesk desk = Desks.singles(1, 2, 2, 4, 4, 8, 8, 48);
        Desks.parts(desk, 3, 6, 12, 56);
        return desk;
      }
    },
    /** Each dependency is needed, and a part of all columns would be seen at once. */
    FILLED(6) {
      @Override
      DependencyDesk make() {
        DependencyDesk desk = new DependencyDesk();
        for (int[] one : Desks.TEN) {
          desk.give(one[0], one[1], one[2]);
        }
        Desks.parts(desk, 7, 11, 19, 35);
        Desks.rows(desk, Desks.SIX_ROWS);
        return desk;
      }
    };

    final int rows;

    State(int rows) {
      this.rows = rows;
    }

    abstract DependencyDesk make();
  }

  public static void main(String[] args) {
    for (State state : State.values()) {
      withNoSet(state);
      withNoKeyOrStem(state);
      writeBesideTheTable(state);
      asking(state);
      neverThrows(state);
    }
    withTwoNoSets();
    emptyObject();
    fullObject();
    allInOneRun();
    DUE.end();
  }

  /** The call answers what is due, and the object shows the same before it, after it and at the end
   *  as one that never heard of it. */
  private static void leavesAsItWas(State state, String name, Call call, long due) {
    String where = state + ": " + name;
    DependencyDesk other = state.make();
    DependencyDesk desk = state.make();
    List<Long> before = Shown.asked(desk);
    DUE.is(where, call.on(desk), due);
    List<Long> after = Shown.asked(desk);
    DUE.is(where + " leaves the object as it was", after.equals(before), true);
    DUE.is(where + " leaves all in it", Shown.drawnOut(desk).equals(Shown.drawnOut(other)), true);
  }

  private static long number(boolean answer) {
    return answer ? 1L : 0L;
  }

  // ---- "In all calls with a set, one that is not 0 to 63 answers BAD_ARG (or false) before anything else."

  private static void withNoSet(State state) {
    for (int bad : Desks.NO_SETS) {
      leavesAsItWas(state, "give(" + bad + ", 1, 0)", d -> d.give(bad, 1, 0), BAD_ARG);
      leavesAsItWas(state, "give(0, " + bad + ", 0)", d -> d.give(0, bad, 0), BAD_ARG);
      leavesAsItWas(state, "give(" + bad + ", 1, 1)", d -> d.give(bad, 1, 1), BAD_ARG);
      leavesAsItWas(state, "closure(" + bad + ")", d -> d.closure(bad), BAD_ARG);
      leavesAsItWas(state, "follows(" + bad + ", 0)", d -> number(d.follows(bad, 0)), NO);
      leavesAsItWas(state, "follows(63, " + bad + ")", d -> number(d.follows(63, bad)), NO);
      leavesAsItWas(state, "bundles(" + bad + ", 0)", d -> number(d.bundles(bad, 0)), NO);
      leavesAsItWas(state, "bundles(63, " + bad + ")", d -> number(d.bundles(63, bad)), NO);
      leavesAsItWas(state, "needs(" + bad + ", 0)", d -> d.needs(bad, 0), BAD_ARG);
      leavesAsItWas(state, "needs(63, " + bad + ")", d -> d.needs(63, bad), BAD_ARG);
      leavesAsItWas(state, "third(" + bad + ")", d -> number(d.third(bad)), NO);
      leavesAsItWas(state, "boyce(" + bad + ")", d -> number(d.boyce(bad)), NO);
      leavesAsItWas(state, "part(" + bad + ")", d -> d.part(bad), BAD_ARG);
      leavesAsItWas(state, "keeps(" + bad + ", 0)", d -> number(d.keeps(bad, 0)), NO);
      leavesAsItWas(state, "keeps(63, " + bad + ")", d -> number(d.keeps(63, bad)), NO);
      leavesAsItWas(state, "keepsBundled(" + bad + ", 0)", d -> number(d.keepsBundled(bad, 0)), NO);
      leavesAsItWas(state, "keepsBundled(63, " + bad + ")", d -> number(d.keepsBundled(63, bad)), NO);
    }
  }

  private static void withTwoNoSets() {
    for (State state : State.values()) {
      leavesAsItWas(state, "give(64, 64, 0)", d -> d.give(64, 64, 0), BAD_ARG);
      leavesAsItWas(state, "give(-1, -1, 1)", d -> d.give(-1, -1, 1), BAD_ARG);
      leavesAsItWas(state, "follows(64, 64)", d -> number(d.follows(64, 64)), NO);
      leavesAsItWas(state, "bundles(-1, -1)", d -> number(d.bundles(-1, -1)), NO);
      leavesAsItWas(state, "needs(64, 64)", d -> d.needs(64, 64), BAD_ARG);
      leavesAsItWas(state, "keeps(64, 64)", d -> number(d.keeps(64, 64)), NO);
      leavesAsItWas(state, "keepsBundled(-1, -1)", d -> number(d.keepsBundled(-1, -1)), NO);
    }
  }

  // ---- "There is no such thing."

  private static void withNoKeyOrStem(State state) {
    for (int i : new int[] {-1, MIN, 64, 256, 1 << 16, MAX}) {
      leavesAsItWas(state, "key(" + i + ")", d -> d.key(i), NONE);
      leavesAsItWas(state, "stem(" + i + ")", d -> d.stem(i), NONE);
    }
    leavesAsItWas(state, "key(keys())", d -> d.key(d.keys()), NONE);
    leavesAsItWas(state, "stem(stems())", d -> d.stem(d.stems()), NONE);
  }

  private static void emptyObject() {
    leavesAsItWas(State.NEW, "take()", DependencyDesk::take, NONE);
    leavesAsItWas(State.NEW, "needs(0, 1)", d -> d.needs(0, 1), NONE);
    leavesAsItWas(State.NEW, "stem(0)", d -> d.stem(0), NONE);
    leavesAsItWas(State.NEW, "key(1)", d -> d.key(1), NONE);
    leavesAsItWas(State.NEW, "lossless()", d -> number(d.lossless()), NO);
    leavesAsItWas(State.NEW, "whole()", d -> {
      d.whole();
      return 0;
    }, 0);
    leavesAsItWas(State.NEW, "blank()", d -> {
      d.blank();
      return 0;
    }, 0);
  }

  // ---- "An argument is out of its range."

  private static void writeBesideTheTable(State state) {
    int rows = state.rows;
    for (int r : new int[] {-1, -6, rows, rows + 1, 6, 7, 36, 1 << 30, WRAPS, MIN, MIN + 1, MAX}) {
      for (int c : new int[] {0, 5}) {
        leavesAsItWas(state, "write(" + r + ", " + c + ", 99)", d -> d.write(r, c, 99), BAD_ARG);
      }
    }
    for (int c : new int[] {-1, -6, 6, 7, 12, 36, 64, 1 << 30, MIN, MAX}) {
      for (int r : new int[] {0, 1, 5}) {
        leavesAsItWas(state, "write(" + r + ", " + c + ", 99)", d -> d.write(r, c, 99), BAD_ARG);
      }
    }
    leavesAsItWas(state, "write(-1, 6, 99)", d -> d.write(-1, 6, 99), BAD_ARG);
    leavesAsItWas(state, "write(6, -6, 99)", d -> d.write(6, -6, 99), BAD_ARG);
  }

  // ---- "A limit is reached."

  private static void fullObject() {
    leavesAsItWas(State.FILLED, "give(0, 63, 0)", d -> d.give(0, 63, 0), FULL);
    leavesAsItWas(State.FILLED, "give(0, 1, 1)", d -> d.give(0, 1, 1), FULL);
    leavesAsItWas(State.FILLED, "give(63, 63, 0)", d -> d.give(63, 63, 0), FULL);
    leavesAsItWas(State.FILLED, "part(63)", d -> d.part(63), FULL);
    leavesAsItWas(State.FILLED, "part(0)", d -> d.part(0), FULL);
    leavesAsItWas(State.LINE, "part(63)", d -> d.part(63), FULL);
    leavesAsItWas(State.LINE, "part(0)", d -> d.part(0), FULL);
    leavesAsItWas(State.LINE, "part(7)", d -> d.part(7), FULL);
    leavesAsItWas(State.FILLED, "row()", DependencyDesk::row, FULL);
    leavesAsItWas(State.FILLED, "give and give again", d -> d.give(0, 63, 0) + d.give(1, 62, 0), 2 * FULL);
    leavesAsItWas(State.FILLED, "part and part again", d -> d.part(63) + d.part(0), 2 * FULL);
    leavesAsItWas(State.FILLED, "row and row again", d -> d.row() + d.row(), 2 * FULL);
  }

  private static void allInOneRun() {
    DependencyDesk desk = State.FILLED.make();
    List<Long> before = Shown.asked(desk);
    long sum = desk.give(1, 2, 0) + desk.part(7) + desk.row() + desk.give(64, 0, 0) + desk.part(-1)
        + desk.write(6, 0, 1) + desk.write(0, 6, 1) + desk.key(-1) + desk.stem(64) + desk.closure(64);
    DUE.is("refused calls in one run", sum, 3 * FULL + 5 * BAD_ARG + 2 * NONE);
    DUE.is("refused calls in one run leave all as it was", Shown.asked(desk).equals(before), true);
    DUE.is("refused calls in one run leave all in it",
        Shown.drawnOut(desk).equals(Shown.drawnOut(State.FILLED.make())), true);
  }

  /** Calls that ask are not refused, and change nothing either: each answers the same once more. */
  private static void asking(State state) {
    Call[] calls = {
      d -> number(d.lossless()), d -> number(d.preserves()), d -> number(d.exact()), d -> d.needs(0, 47),
      d -> number(d.fourth()), DependencyDesk::discovered, DependencyDesk::agreements, DependencyDesk::corners,
    };
    for (int i = 0; i < calls.length; i++) {
      leavesAsItWas(state, "asking call " + i, calls[i], calls[i].on(state.make()));
    }
  }

  // ---- "No call ever throws."

  private static void neverThrows(State state) {
    for (Method method : DependencyDesk.class.getDeclaredMethods()) {
      if (java.lang.reflect.Modifier.isPublic(method.getModifiers())) {
        Object[] arguments = new Object[method.getParameterCount()];
        int combinations = (int) Math.pow(ANY.length, arguments.length);
        for (int i = 0; i < combinations; i++) {
          int rest = i;
          for (int k = 0; k < arguments.length; k++) {
            arguments[k] = ANY[rest % ANY.length];
            rest /= ANY.length;
          }
          callOnce(state, method, arguments);
        }
      }
    }
  }

  private static void callOnce(State state, Method method, Object[] arguments) {
    String call = state + ": " + method.getName() + Arrays.toString(arguments);
    try {
      method.invoke(state.make(), arguments);
      DUE.is(call + " throws", false, false);
    } catch (InvocationTargetException thrown) {
      DUE.is(call + " throws " + thrown.getCause(), true, false);
    } catch (IllegalAccessException hidden) {
      DUE.is(call + " cannot be called", true, false);
    }
  }
}
