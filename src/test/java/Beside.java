import java.util.Arrays;

/** The class and the reference side by side: each call goes to both, and the answers are compared. */
final class Beside {
  /** An object is used for at most so many calls. */
  static final int MOST_CALLS = 512;

  static final String[] FACE = {
    "give", "take", "closure", "follows", "bundles", "needs", "keys", "key", "closed", "corners",
    "stems", "stem", "third", "boyce", "fourth", "part", "whole", "lossless", "preserves", "row",
    "write", "blank", "keeps", "keepsBundled", "discovered", "agreements", "exact",
  };

  private final Due due;
  private final String run;
  private final DependencyDesk desk = new DependencyDesk();
  private final Reference reference = new Reference();
  private int made = 0;

  Beside(Due due, String run) {
    this.due = due;
    this.run = run;
  }

  boolean hasCallsLeft() {
    return made < MOST_CALLS;
  }

  int callsMade() {
    return made;
  }

  void call(String call, int... a) {
    if (!hasCallsLeft()) {
      throw new IllegalStateException(run + ": nothing is promised for a further " + call);
    }
    made++;
    String which = run + ", call " + made + ": " + call + Arrays.toString(a);
    switch (call) {
      case "give" -> due.is(which, desk.give(a[0], a[1], a[2]), reference.give(a[0], a[1], a[2]));
      case "take" -> due.is(which, desk.take(), reference.take());
      case "closure" -> due.is(which, desk.closure(a[0]), reference.closure(a[0]));
      case "follows" -> due.is(which, desk.follows(a[0], a[1]), reference.follows(a[0], a[1]));
      case "bundles" -> due.is(which, desk.bundles(a[0], a[1]), reference.bundles(a[0], a[1]));
      case "needs" -> due.is(which, desk.needs(a[0], a[1]), reference.needs(a[0], a[1]));
      case "keys" -> due.is(which, desk.keys(), reference.keys());
      case "key" -> due.is(which, desk.key(a[0]), reference.key(a[0]));
      case "closed" -> due.is(which, desk.closed(), reference.closed());
      case "corners" -> due.is(which, desk.corners(), reference.corners());
      case "stems" -> due.is(which, desk.stems(), reference.stems());
      case "stem" -> due.is(which, desk.stem(a[0]), reference.stem(a[0]));
      case "third" -> due.is(which, desk.third(a[0]), reference.third(a[0]));
      case "boyce" -> due.is(which, desk.boyce(a[0]), reference.boyce(a[0]));
      case "fourth" -> due.is(which, desk.fourth(), reference.fourth());
      default -> callOnPartsOrTable(which, call, a);
    }
  }

  private void callOnPartsOrTable(String which, String call, int[] a) {
    switch (call) {
      case "part" -> due.is(which, desk.part(a[0]), reference.part(a[0]));
      case "whole" -> {
        desk.whole();
        reference.whole();
      }
      case "lossless" -> due.is(which, desk.lossless(), reference.lossless());
      case "preserves" -> due.is(which, desk.preserves(), reference.preserves());
      case "row" -> due.is(which, desk.row(), reference.row());
      case "write" -> due.is(which, desk.write(a[0], a[1], a[2]), reference.write(a[0], a[1], a[2]));
      case "blank" -> {
        desk.blank();
        reference.blank();
      }
      case "keeps" -> due.is(which, desk.keeps(a[0], a[1]), reference.keeps(a[0], a[1]));
      case "keepsBundled" -> due.is(which, desk.keepsBundled(a[0], a[1]), reference.keepsBundled(a[0], a[1]));
      case "discovered" -> due.is(which, desk.discovered(), reference.discovered());
      case "agreements" -> due.is(which, desk.agreements(), reference.agreements());
      case "exact" -> due.is(which, desk.exact(), reference.exact());
      default -> throw new IllegalArgumentException(call);
    }
  }
}
