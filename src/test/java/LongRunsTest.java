import java.util.ArrayList;
import java.util.List;

/** "An object is used for at most 512 calls": up to the last of them each call answers as it should,
 *  whatever other calls came before. */
public final class LongRunsTest {
  /** What comes round in a run; as there are 61, a prime number, any stride meets them all. */
  private static final String[] ROUND = {
    "give", "closure", "row", "write", "write", "part", "keys", "give", "follows", "take", "give",
    "bundles", "give", "write", "write", "give", "needs", "row", "key", "part", "write", "closed",
    "take", "row", "write", "take", "corners", "stems", "take", "part", "row", "stem", "write",
    "write", "give", "third", "keeps", "boyce", "part", "row", "write", "keepsBundled", "write",
    "give", "fourth", "lossless", "discovered", "part", "write", "preserves", "agreements", "exact",
    "whole", "take", "row", "write", "take", "part", "blank", "take", "give",
  };
  /** Calls that change nothing in a full object. (The reference takes long for needs there.) */
  private static final String[] ON_A_FULL_ONE = {
    "give", "closure", "follows", "bundles", "keys", "key", "closed", "corners", "stems", "stem",
    "third", "boyce", "fourth", "part", "lossless", "preserves", "row", "keeps", "keepsBundled",
    "discovered", "agreements", "exact",
  };
  private static final Due DUE = new Due("LongRunsTest");

  public static void main(String[] args) {
    eachCallAtEachPlace();
    eachCallBehindEach();
    oneCallAgainAndAgain();
    emptiedByTheLastCallButOne();
    limitsAgainAndAgain();
    twoObjectsInTurn();
    allIsKeptToTheEnd();
    DUE.end();
  }

  private static void anyCall(Beside both, Numbers numbers, String call) {
    both.call(call, numbers.argumentsFor(call));
  }

  /** From run to run of one stride the round begins one further: each call comes first, second, and
   *  so on to the 512th. */
  private static void eachCallAtEachPlace() {
    for (int stride : new int[] {1, 23, 42}) {
      for (int from = 0; from < ROUND.length; from++) {
        Numbers numbers = new Numbers(stride * 100 + from);
        Beside both = new Beside(DUE, "stride " + stride + " from " + from);
        while (both.hasCallsLeft()) {
          anyCall(both, numbers, ROUND[(from + both.callsMade() * stride) % ROUND.length]);
        }
      }
    }
  }

  private static Beside filled(String run, Numbers numbers) {
    Beside both = new Beside(DUE, run);
    for (int i = 0; i < 5; i++) {
      anyCall(both, numbers, "give");
    }
    for (int i = 0; i < 3; i++) {
      anyCall(both, numbers, "part");
    }
    for (int i = 0; i < 4; i++) {
      both.call("row");
    }
    for (int i = 0; i < 30; i++) {
      anyCall(both, numbers, "write");
    }
    return both;
  }

  private static void eachCallBehindEach() {
    for (String first : Beside.FACE) {
      for (String second : Beside.FACE) {
        Numbers numbers = new Numbers((first + second).hashCode());
        Beside both = filled(second + " behind " + first, numbers);
        for (int i = 0; i < 4; i++) {
          anyCall(both, numbers, first);
          anyCall(both, numbers, second);
        }
      }
    }
  }

  private static void oneCallAgainAndAgain() {
    for (String call : Beside.FACE) {
      for (int seed = 0; seed < 3; seed++) {
        Numbers numbers = new Numbers(seed);
        Beside both = filled(call + " again and again", numbers);
        while (both.hasCallsLeft()) {
          anyCall(both, numbers, call);
        }
      }
    }
  }

  /** The calls that answer nothing are seen by the one behind them. */
  private static void emptiedByTheLastCallButOne() {
    for (int seed = 0; seed < 10; seed++) {
      endsWith(seed, "whole", "part", 63);
      endsWith(seed, "whole", "lossless");
      endsWith(seed, "whole", "preserves");
      endsWith(seed, "blank", "row");
      endsWith(seed, "blank", "write", 0, 0, 1);
      endsWith(seed, "blank", "agreements");
      endsWith(seed, "blank", "keeps", 0, 63);
      endsWith(seed, "take", "closed");
      endsWith(seed, "take", "give", 1, 2, 0);
    }
  }

  private static void endsWith(int seed, String lastButOne, String last, int... arguments) {
    Numbers numbers = new Numbers(seed);
    Beside both = filled(lastButOne + " and " + last + " at the end", numbers);
    while (both.callsMade() < Beside.MOST_CALLS - 2) {
      anyCall(both, numbers, ROUND[numbers.next(ROUND.length)]);
    }
    both.call(lastButOne);
    both.call(last, arguments);
  }

  /** Filled beyond the limit, asked, emptied to the last and filled once more, to the 512th call. */
  private static void limitsAgainAndAgain() {
    String[][] rounds = {
      {"give 11", "closure 2", "bundles 1", "keys 1", "stem 1", "take 11"},
      {"part 5", "lossless 1", "preserves 1", "whole 1", "lossless 1"},
      {"row 7", "write 20", "keeps 2", "keepsBundled 2", "discovered 1", "blank 1", "agreements 1"},
      {"give 3", "part 5", "row 7", "take 4", "whole 1", "blank 1", "take 1", "part 1", "row 1"},
    };
    for (String[] round : rounds) {
      for (int seed = 0; seed < 5; seed++) {
        Numbers numbers = new Numbers(seed);
        Beside both = new Beside(DUE, "limits from " + round[0]);
        List<String> calls = spelledOut(round);
        while (both.hasCallsLeft()) {
          anyCall(both, numbers, calls.get(both.callsMade() % calls.size()));
        }
      }
    }
  }

  private static List<String> spelledOut(String[] round) {
    List<String> calls = new ArrayList<>();
    for (String step : round) {
      String[] callAndTimes = step.split(" ");
      for (int i = 0; i < Integer.parseInt(callAndTimes[1]); i++) {
        calls.add(callAndTimes[0]);
      }
    }
    return calls;
  }

  private static void twoObjectsInTurn() {
    for (int seed = 0; seed < 10; seed++) {
      Numbers numbers = new Numbers(seed);
      Beside one = new Beside(DUE, "one of two, " + seed);
      Beside other = new Beside(DUE, "the other of two, " + seed);
      while (one.hasCallsLeft() && other.hasCallsLeft()) {
        Beside both = numbers.next(2) == 0 ? one : other;
        anyCall(both, numbers, ROUND[numbers.next(ROUND.length)]);
      }
    }
  }

  /** What the first calls give is there to the last: here 105 calls draw all out of a full object. */
  private static void allIsKeptToTheEnd() {
    for (int seed = 0; seed < 8; seed++) {
      Numbers numbers = new Numbers(seed);
      Beside both = full("all is kept to the end, " + seed);
      while (both.callsMade() < Beside.MOST_CALLS - 105) {
        String call = ON_A_FULL_ONE[numbers.next(ON_A_FULL_ONE.length)];
        anyCall(both, numbers, call);
      }
      drawOut(both);
    }
  }

  private static Beside full(String run) {
    Beside both = new Beside(DUE, run);
    for (int[] one : Desks.TEN) {
      both.call("give", one);
    }
    for (int part : new int[] {7, 11, 19, 35}) {
      both.call("part", part);
    }
    for (int r = 0; r < Desks.SIX_ROWS.length; r++) {
      both.call("row");
      for (int c = 0; c < 6; c++) {
        both.call("write", r, c, Desks.SIX_ROWS[r].charAt(c) - '0');
      }
    }
    return both;
  }

  private static void drawOut(Beside both) {
    for (int cell = 0; cell < 36; cell++) {
      both.call("write", cell / 6, cell % 6, 0);
    }
    for (int i = 0; i < 7; i++) {
      both.call("row");
    }
    for (int i = 0; i < 5; i++) {
      both.call("part", 0);
    }
    both.call("lossless");
    both.call("preserves");
    for (int i = 0; i < 11; i++) {
      both.call("closed");
      both.call("closure", 4);
      both.call("bundles", 4, 33);
      both.call("fourth");
      both.call("take");
    }
    DUE.is("calls made when all is drawn out", both.callsMade(), Beside.MOST_CALLS);
  }
}
