import java.util.ArrayList;
import java.util.List;

/** "An object is used for at most 512 calls": up to the last of them each call answers as it should,
 *  whatever other calls came before. */
public final class LongRunsTest {
  /** What comes round in a run; as there are 61, a prime number, any stride meets them all. */
  private static final String[] ROUND = {
    "give", "closure", "row", "write", "write", "part", "keys", "give", "follows", "take", "give",
    "bundles", "give", "write", "write", "give", "needs", "row", "key", "part", "write", "closed",
    "take", "row", "write", "take", "corners", "stems", "take", "part", "row", "stem", "write",
    "write", "give", "third", "keeps", "boyce", "part", "row", "write", "keepsBundled", "write",
    "give", "fourth", "lossless", "discovered", "part", "write", "preserves", "agreements", "exact",
    "whole", "take", "row", "write", "take", "part", "blank", "take", "give",
  };
  /** So many calls drawOut makes. */
  private static final int DRAWING_OUT = 167;

  /** Calls that change nothing in a full object. */
  private static final String[] ON_A_FULL_ONE = {
    "give", "closure", "follows", "bundles", "needs", "keys", "key", "closed", "corners", "stems",
    "stem", "third", "boyce", "fourth", "part", "lossless", "preserves", "row", "keeps",
    "keepsBundled", "discovered", "agreements", "exact",
  };
  private static final Due DUE = new Due("LongRunsTest");

  public static void main(String[] args) {
    eachCallAtEachPlace();
    eachCallBehindEach();
    oneCallAgainAndAgain();
    refusedAgainAndAgain();
    emptiedByTheLastCallButOne();
    limitsAgainAndAgain();
    exactToTheEnd();
    twoObjectsInTurn();
    allIsKeptToTheEnd();
    DUE.end();
  }

  private static void anyCall(Beside both, Numbers numbers, String call) {
    both.call(call, numbers.argumentsFor(call));
  }

  /** From run to run of one stride the round begins one further: each call comes first, second, and
   *  so on to the 512th. */
  private static void eachCallAtEachPlace() {
    for (int stride : new int[] {1, 23, 42}) {
      for (int from = 0; from < ROUND.length; from++) {
        Numbers numbers = new Numbers(stride * 100 + from);
        Beside both = new Beside(DUE, "stride " + stride + " from " + from);
        while (both.hasCallsLeft()) {
          anyCall(both, numbers, ROUND[(from + both.callsMade() * stride) % ROUND.length]);
        }
      }
    }
  }

  private static Beside filled(String run, Numbers numbers) {
    Beside both = new Beside(DUE, run);
    for (int i = 0; i < 5; i++) {
      anyCall(both, numbers, "give");
    }
    for (int i = 0; i < 3; i++) {
      anyCall(both, numbers, "part");
    }
    for (int i = 0; i < 4; i++) {
      both.call("row");
    }
    for (int i = 0; i < 30; i++) {
      anyCall(both, numbers, "write");
    }
    return both;
  }

  private static void eachCallBehindEach() {
    for (String first : Beside.FACE) {
      for (String second : Beside.FACE) {
        Numbers numbers = new Numbers((first + second).hashCode());
        Beside both = filled(second + " behind " + first, numbers);
        for (int i = 0; i < 4; i++) {
          anyCall(both, numbers, first);
          anyCall(both, numbers, second);
        }
      }
    }
  }

  /** On an object that holds a little and on a full one, and then all is drawn out of it: the call
   *  changes nothing that it should not. */
  private static void oneCallAgainAndAgain() {
    for (String call : Beside.FACE) {
      for (int seed = 0; seed < 4; seed++) {
        Numbers numbers = new Numbers(seed);
        String run = call + " again and again, " + seed;
        Beside both = seed < 2 ? filled(run, numbers) : full(run);
        while (both.callsMade() < Beside.MOST_CALLS - DRAWING_OUT) {
          anyCall(both, numbers, call);
        }
        drawOut(both);
      }
    }
  }

  private static void refusedAgainAndAgain() {
    Object[][] refused = {
      {"give", new int[] {64, 0, 0}, new int[] {0, -1, 1}},
      {"closure", new int[] {64}, new int[] {-1}},
      {"follows", new int[] {64, 0}, new int[] {63, -1}},
      {"bundles", new int[] {64, 0}, new int[] {63, -1}},
      {"needs", new int[] {64, 0}, new int[] {63, -1}},
      {"key", new int[] {64}, new int[] {-1}},
      {"stem", new int[] {64}, new int[] {-1}},
      {"third", new int[] {64}, new int[] {-1}},
      {"boyce", new int[] {64}, new int[] {-1}},
      {"part", new int[] {64}, new int[] {-1}},
      {"write", new int[] {6, 0, 1}, new int[] {0, -1, 1}},
      {"keeps", new int[] {64, 0}, new int[] {63, -1}},
      {"keepsBundled", new int[] {64, 0}, new int[] {63, -1}},
    };
    for (Object[] one : refused) {
      Beside both = filled("refused again and again", new Numbers(1));
      while (both.hasCallsLeft()) {
        both.call((String) one[0], (int[]) one[1 + both.callsMade() % 2]);
      }
    }
    toTheEnd(full("full to the end"), "give", 1, 2, 0);
    toTheEnd(full("full to the end"), "part", 63);
    toTheEnd(full("full to the end"), "row");
    toTheEnd(new Beside(DUE, "new to the end"), "take");
    toTheEnd(new Beside(DUE, "new to the end"), "needs", 0, 1);
  }

  private static void toTheEnd(Beside both, String call, int... arguments) {
    while (both.hasCallsLeft()) {
      both.call(call, arguments);
    }
  }

  /** The calls that answer nothing are seen by the one behind them. */
  private static void emptiedByTheLastCallButOne() {
    for (int seed = 0; seed < 10; seed++) {
      endsWith(seed, "whole", "part", 63);
      endsWith(seed, "whole", "lossless");
      endsWith(seed, "whole", "preserves");
      endsWith(seed, "blank", "row");
      endsWith(seed, "blank", "write", 0, 0, 1);
      endsWith(seed, "blank", "agreements");
      endsWith(seed, "blank", "keeps", 0, 63);
      endsWith(seed, "take", "closed");
      endsWith(seed, "take", "give", 1, 2, 0);
    }
  }

  private static void endsWith(int seed, String lastButOne, String last, int... arguments) {
    Numbers numbers = new Numbers(seed);
    Beside both = filled(lastButOne + " and " + last + " at the end", numbers);
    while (both.callsMade() < Beside.MOST_CALLS - 2) {
      anyCall(both, numbers, ROUND[numbers.next(ROUND.length)]);
    }
    both.call(lastButOne);
    both.call(last, arguments);
  }

  /** Filled beyond the limit, asked, emptied to the last and filled once more, to the 512th call. */
  private static void limitsAgainAndAgain() {
    String[][] rounds = {
      {"give 11", "closure 2", "bundles 1", "keys 1", "stem 1", "take 11"},
      {"part 5", "lossless 1", "preserves 1", "whole 1", "lossless 1"},
      {"row 7", "write 20", "keeps 2", "keepsBundled 2", "discovered 1", "blank 1", "agreements 1"},
      {"give 3", "part 5", "row 7", "take 4", "whole 1", "blank 1", "take 1", "part 1", "row 1"},
    };
    for (String[] round : rounds) {
      for (int seed = 0; seed < 5; seed++) {
        Numbers numbers = new Numbers(seed);
        Beside both = new Beside(DUE, "limits from " + round[0]);
        List<String> calls = spelledOut(round);
        while (both.hasCallsLeft()) {
          anyCall(both, numbers, calls.get(both.callsMade() % calls.size()));
        }
      }
    }
  }

  private static List<String> spelledOut(String[] round) {
    List<String> calls = new ArrayList<>();
    for (String step : round) {
      String[] callAndTimes = step.split(" ");
      for (int i = 0; i < Integer.parseInt(callAndTimes[1]); i++) {
        calls.add(callAndTimes[0]);
      }
    }
    return calls;
  }

  /** Any calls hardly ever make a table exact: here it is and is not in turn, at each place of a run. */
  private static void exactToTheEnd() {
    String[] table = {"000000", "100000", "210000", "321000"};
    for (int before = 0; before < 4; before++) {
      Beside both = new Beside(DUE, "exact to the end, " + before);
      for (int i = 0; i < before; i++) {
        both.call("exact");
      }
      both.call("give", 0, 56, 0);
      both.call("give", 1, 2, 0);
      both.call("give", 2, 4, 0);
      writeRows(both, table);
      for (int x = 1; both.hasCallsLeft(); x = 1 - x) {
        both.call("exact");
        if (both.hasCallsLeft()) {
          both.call("write", 3, 5, x);
        }
      }
    }
  }

  private static void writeRows(Beside both, String... digits) {
    for (int r = 0; r < digits.length; r++) {
      both.call("row");
      for (int c = 0; c < 6; c++) {
        both.call("write", r, c, digits[r].charAt(c) - '0');
      }
    }
  }

  private static void twoObjectsInTurn() {
    for (int seed = 0; seed < 10; seed++) {
      Numbers numbers = new Numbers(seed);
      Beside one = new Beside(DUE, "one of two, " + seed);
      Beside other = new Beside(DUE, "the other of two, " + seed);
      while (one.hasCallsLeft() && other.hasCallsLeft()) {
        Beside both = numbers.next(2) == 0 ? one : other;
        anyCall(both, numbers, ROUND[numbers.next(ROUND.length)]);
      }
    }
  }

  /** What the first calls give is there to the last. */
  private static void allIsKeptToTheEnd() {
    for (int seed = 0; seed < 8; seed++) {
      Numbers numbers = new Numbers(seed);
      Beside both = full("all is kept to the end, " + seed);
      while (both.callsMade() < Beside.MOST_CALLS - DRAWING_OUT) {
        anyCall(both, numbers, ON_A_FULL_ONE[numbers.next(ON_A_FULL_ONE.length)]);
      }
      drawOut(both);
    }
  }

  private static Beside full(String run) {
    Beside both = new Beside(DUE, run);
    for (int[] one : Desks.TEN) {
      both.call("give", one);
    }
    for (int part : new int[] {7, 11, 19, 35}) {
      both.call("part", part);
    }
    writeRows(both, Desks.SIX_ROWS);
    return both;
  }

  /** Calls that take the state apart until nothing of it is left unseen. */
  private static void drawOut(Beside both) {
    for (int cell = 0; cell < 36; cell++) {
      both.call("write", cell / 6, cell % 6, 0);
    }
    for (int i = 0; i < 7; i++) {
      both.call("row");
    }
    for (int i = 0; i < 11; i++) {
      both.call("closed");
      both.call("closure", 4);
      both.call("bundles", 4, 33);
      both.call("fourth");
      both.call("take");
    }
    drawOutParts(both);
    DUE.is("calls made when all is drawn out", both.callsMade(), Beside.MOST_CALLS);
  }

  /** One dependency alone is preserved just if a part has all its columns. */
  private static void drawOutParts(Beside both) {
    for (int a = 0; a < 6; a++) {
      for (int b = 0; b <= a; b++) {
        both.call("give", a == b ? 0 : 1 << a, 1 << b, 0);
        both.call("preserves");
        both.call("take");
      }
    }
    for (int i = 0; i < 5; i++) {
      both.call("part", 0);
    }
    both.call("lossless");
  }
}
