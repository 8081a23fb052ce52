/**
 * The sentences of the document that name a boundary case, each with a test of its own. What a
 * refused call leaves as it was is in RefusedTest.
 */
public final class BoundariesTest {
  private static final int BAD_ARG = -1;
  private static final int FULL = -2;
  private static final int NONE = -3;
  private static final int MIN = Desks.MIN;
  private static final int MAX = Desks.MAX;
  /** Any two rows differ in just two columns, and each two rows in other ones. */
  private static final String[] EACH_FROM_ALL_OTHERS = {
    "000000", "110000", "101000", "100100", "100010", "100001",
  };
  private static final Due DUE = new Due("BoundariesTest");

  public static void main(String[] args) {
    termsOfColumnsAndSets();
    termsOfTables();
    termsOfWhatFollows();
    termsOfKeysAndStems();
    termsOfForms();
    termsOfParts();
    newObject();
    give();
    take();
    closure();
    needs();
    keys();
    closedAndCorners();
    stems();
    fourth();
    parts();
    lossless();
    preserves();
    rows();
    write();
    blank();
    keeps();
    discovered();
    agreements();
    exact();
    lastCall();
    DUE.end();
  }

  private static void termsOfColumnsAndSets() {
    columnsAreZeroToFive();
    setsAreZeroToSixtyThree();
    noSetComesFirst();
  }

  private static void termsOfTables() {
    numbersAreAnyInt();
    allRowsAgreeOnNothing();
    fewRowsKeepAll();
    noColumnIsInNeither();
  }

  // ---- Terms: "There are six COLUMNS, 0 to 5"

  private static void columnsAreZeroToFive() {
    DependencyDesk desk = Desks.withRows("000000", "000000");
    for (int c = 0; c < 6; c++) {
      DUE.is("columns: write(1, " + c + ", 1)", desk.write(1, c, 1), 0);
      DUE.is("columns: column " + c + " is in its set", desk.keeps(0, 1 << c), false);
      DUE.is("columns: those above are not", desk.keeps(0, 63 & ~((2 << c) - 1)), true);
    }
    DUE.is("columns: none below 0", desk.write(1, -1, 1), BAD_ARG);
    DUE.is("columns: none above 5", desk.write(1, 6, 1), BAD_ARG);
  }

  // ---- Terms: "a SET of them is the sum of 2 to the power c over its columns (0 to 63)"

  private static void setsAreZeroToSixtyThree() {
    DependencyDesk desk = new DependencyDesk();
    DUE.is("sets: give(0, 0, 0)", desk.give(0, 0, 0), 0);
    DUE.is("sets: give(63, 63, 0)", desk.give(63, 63, 0), 1);
    DUE.is("sets: give(0, 63, 1)", desk.give(0, 63, 1), 2);
    DUE.is("sets: closure(0)", desk.closure(0), 0);
    DUE.is("sets: closure(63)", desk.closure(63), 63);
    DUE.is("sets: follows(63, 63)", desk.follows(63, 63), true);
    DUE.is("sets: follows(0, 0)", desk.follows(0, 0), true);
    DUE.is("sets: bundles(63, 0)", desk.bundles(63, 0), true);
    DUE.is("sets: bundles(0, 63)", desk.bundles(0, 63), true);
    DUE.is("sets: needs(63, 63)", desk.needs(63, 63), 0);
    DUE.is("sets: needs(0, 0)", desk.needs(0, 0), 0);
    DUE.is("sets: third(0)", desk.third(0), true);
    DUE.is("sets: third(63)", desk.third(63), true);
    DUE.is("sets: boyce(0)", desk.boyce(0), true);
    DUE.is("sets: boyce(63)", desk.boyce(63), true);
    DUE.is("sets: part(0)", desk.part(0), 1);
    DUE.is("sets: part(63)", desk.part(63), 2);
    DUE.is("sets: keeps(0, 63)", desk.keeps(0, 63), true);
    DUE.is("sets: keeps(63, 0)", desk.keeps(63, 0), true);
    DUE.is("sets: keepsBundled(0, 63)", desk.keepsBundled(0, 63), true);
    DUE.is("sets: keepsBundled(63, 0)", desk.keepsBundled(63, 0), true);
  }

  // ---- Terms: "one that is not 0 to 63 answers BAD_ARG (or false) before anything else"

  private static void noSetComesFirst() {
    for (int bad : Desks.NO_SETS) {
      DependencyDesk all = Desks.singles(0, 63, 0, 63, 0, 63, 0, 63, 0, 63, 0, 63, 0, 63, 0, 63, 0, 63, 0, 63);
      Desks.parts(all, 63, 63, 63, 63);
      String no = " no set " + bad;
      DUE.is("sets: BAD_ARG, not FULL, left is" + no, all.give(bad, 0, 0), BAD_ARG);
      DUE.is("sets: BAD_ARG, not FULL, right is" + no, all.give(0, bad, 1), BAD_ARG);
      DUE.is("sets: BAD_ARG, not FULL, the part is" + no, all.part(bad), BAD_ARG);
      DUE.is("sets: all follows, but not from" + no, all.follows(bad, 63), false);
      DUE.is("sets: all follows, but" + no, all.follows(0, bad), false);
      DUE.is("sets: all is bundled, but not by" + no, all.bundles(bad, 63), false);
      DUE.is("sets: all is bundled, but" + no, all.bundles(0, bad), false);
      DUE.is("sets: BAD_ARG, not 1, from" + no, all.needs(bad, 63), BAD_ARG);
      DUE.is("sets: BAD_ARG, not 1, to" + no, all.needs(0, bad), BAD_ARG);
      DUE.is("sets: each set is in third form, but" + no, all.third(bad), false);
      DUE.is("sets: each set is in Boyce form, but" + no, all.boyce(bad), false);
      DUE.is("sets: all is kept, but not from" + no, all.keeps(bad, 63), false);
      DUE.is("sets: all is kept, but" + no, all.keeps(0, bad), false);
      DUE.is("sets: all is kept bundled, but not by" + no, all.keepsBundled(bad, 63), false);
      DUE.is("sets: all is kept bundled, but" + no, all.keepsBundled(0, bad), false);
      DependencyDesk none = new DependencyDesk();
      DUE.is("sets: BAD_ARG, not 0, from" + no, none.needs(bad, 0), BAD_ARG);
      DUE.is("sets: BAD_ARG, not NONE, from" + no, none.needs(bad, 63), BAD_ARG);
      DUE.is("sets: BAD_ARG, not NONE, to" + no, none.needs(0, bad), BAD_ARG);
    }
  }

  // ---- Terms: "a list of ROWS with an int in each column"

  private static void numbersAreAnyInt() {
    int[] numbers = {MIN, MIN + 1, -1, 1, 255, 256, 65535, 65536, MAX - 1, MAX};
    DependencyDesk desk = Desks.withRows("000000", "000000");
    int before = 0;
    for (int number : numbers) {
      DUE.is("ints: " + number + " for " + before, desk.write(1, 3, number), before);
      DUE.is("ints: " + number + " is not 0", desk.keeps(0, 8), false);
      before = number;
    }
    DUE.is("ints: the last one", desk.write(1, 3, 0), MAX);
    DUE.is("ints: 0 is 0", desk.keeps(0, 8), true);
    // The difference of these two does not fit in an int.
    desk.write(0, 3, MIN);
    desk.write(1, 3, MAX);
    DUE.is("ints: least and greatest", desk.agreements(), 1);
    DUE.is("ints: least and greatest differ", desk.keeps(0, 8), false);
  }

  // ---- Terms: "Two rows AGREE on a set if they have the same numbers in all its columns."

  private static void allRowsAgreeOnNothing() {
    DependencyDesk desk = Desks.withRows("012345", "123450");
    for (int c = 0; c < 6; c++) {
      DUE.is("agree: on nothing, so on column " + c, desk.keeps(0, 1 << c), false);
      DUE.is("agree: on nothing, bundled, so on column " + c, desk.keepsBundled(0, 1 << c), false);
      DUE.is("agree: not on column " + c, desk.keeps(1 << c, 63), true);
    }
    DUE.is("agree: on nothing, so on nothing", desk.keeps(0, 0), true);
    // In all columns of the set, not in some of it.
    DependencyDesk part = Desks.withRows("000000", "011111");
    DUE.is("agree: on column 0 alone", part.keeps(1, 2), false);
    DUE.is("agree: not on columns 0 and 1", part.keeps(3, 4), true);
  }

  // ---- Terms: "if any two rows that agree on X agree on Y" where there are no two

  private static void fewRowsKeepAll() {
    for (int x = 0; x < 64; x++) {
      DependencyDesk none = new DependencyDesk();
      DependencyDesk one = Desks.withRows("123456");
      for (int y = 0; y < 64; y++) {
        String both = "(" + x + ", " + y + ")";
        DUE.is("keeps: no row" + both, none.keeps(x, y), true);
        DUE.is("keeps: no row, bundled" + both, none.keepsBundled(x, y), true);
        DUE.is("keeps: one row" + both, one.keeps(x, y), true);
        DUE.is("keeps: one row, bundled" + both, one.keepsBundled(x, y), true);
      }
    }
  }

  // ---- Terms: "and with s on all columns that are in neither" where there is no such column

  private static void noColumnIsInNeither() {
    DependencyDesk desk = Desks.withRows(Desks.SIX_ROWS);
    for (int x = 0; x < 64; x++) {
      DUE.is("keeps: all columns are in either " + x, desk.keepsBundled(x, 63 - x), true);
      DUE.is("keeps: the right is all, the left is " + x, desk.keepsBundled(x, 63), true);
      DUE.is("keeps: the right is nothing, the left is " + x, desk.keepsBundled(x, 0), true);
      DUE.is("keeps: the right is the left " + x, desk.keepsBundled(x, x), true);
    }
  }

  // ---- Terms: "A dependency FOLLOWS if every table that keeps all given ones keeps it." with none given

  private static void termsOfWhatFollows() {
    for (int x = 0; x < 64; x++) {
      DependencyDesk none = new DependencyDesk();
      DependencyDesk all = Desks.singles(0, 63);
      for (int y = 0; y < 64; y++) {
        String both = "(" + x + ", " + y + ")";
        boolean within = (y & ~x) == 0;
        DUE.is("follows: none given" + both, none.follows(x, y), within);
        DUE.is("follows: none given, bundled" + both, none.bundles(x, y), within || (x | y) == 63);
        DUE.is("follows: all from nothing" + both, all.follows(x, y), true);
        DUE.is("follows: all from nothing, bundled" + both, all.bundles(x, y), true);
      }
    }
    givenOnesThatSayNothing();
  }

  private static void givenOnesThatSayNothing() {
    DependencyDesk desk = Desks.singles(0, 0, 63, 63, 63, 0, 7, 3, 7, 7);
    desk.give(0, 0, 1);
    desk.give(0, 63, 1);
    desk.give(21, 42, 1);
    desk.give(7, 5, 1);
    desk.give(63, 0, 1);
    for (int x = 0; x < 64; x++) {
      DUE.is("follows: given ones that say nothing, closure(" + x + ")", desk.closure(x), x);
    }
    DUE.is("follows: given ones that say nothing, keys()", desk.keys(), 1);
    DUE.is("follows: given ones that say nothing, closed()", desk.closed(), 64);
    DUE.is("follows: given ones that say nothing, stems()", desk.stems(), 0);
    DUE.is("follows: given ones that say nothing, fourth()", desk.fourth(), true);
    DUE.is("follows: given ones that say nothing, needs(0, 1)", desk.needs(0, 1), NONE);
  }

  // ---- Terms: "and none of whose smaller subsets is one"; "P is a STEM if it is not closed and .."

  private static void termsOfKeysAndStems() {
    DUE.is("key: nothing is smallest", Desks.singles(0, 63).key(0), 0);
    DUE.is("key: then no larger one is a key", Desks.singles(0, 63, 1, 62).keys(), 1);
    DUE.is("key: all columns, if no smaller set is one", new DependencyDesk().key(0), 63);
    DUE.is("key: all but one", Desks.singles(31, 32).key(0), 31);
    DUE.is("key: that alone", Desks.singles(31, 32).keys(), 1);
    DUE.is("key: all but the first", Desks.singles(62, 1).key(0), 62);
    DUE.is("key: a key is no smaller subset of itself", Desks.singles(3, 60, 1, 4).key(0), 3);
    DUE.is("key: a smaller one far below", Desks.singles(31, 32, 1, 30).key(0), 1);
    DUE.is("stem: nothing, if it is not closed", Desks.singles(0, 1).stem(0), 0);
    DUE.is("stem: then only what has its closure", Desks.singles(0, 1, 2, 4).stem(1), 3);
    DUE.is("stem: no third", Desks.singles(0, 1, 2, 4).stem(2), NONE);
    DUE.is("stem: a stem is no smaller subset of itself", Desks.singles(1, 2).stem(0), 1);
    DUE.is("stem: all but one", Desks.singles(31, 32).stem(0), 31);
    DUE.is("stem: all but the first", Desks.singles(62, 1).stem(0), 62);
    DUE.is("stem: a closed set is none, though it has all closures", Desks.singles(1, 2).stem(1), NONE);
    DUE.is("stem: all columns are closed, so none", Desks.singles(31, 32).stems(), 1);
    DUE.is("stem: a stem with the same closure hinders", Desks.singles(1, 6, 3, 4).stems(), 1);
    // The stem 1 hinders 3, which lacks column 2 of its closure, but not 7.
    DUE.is("stem: smaller ones first", Desks.singles(1, 4, 3, 8).stem(1), 7);
  }

  // ---- Terms: THIRD FORM and BOYCE FORM, with X from nothing to all of S

  private static void termsOfForms() {
    DependencyDesk desk = Desks.singles(0, 1, 2, 4, 6, 8);
    DUE.is("third: nothing", desk.third(0), true);
    DUE.is("boyce: nothing", desk.boyce(0), true);
    for (int c = 0; c < 6; c++) {
      DUE.is("third: column " + c + " alone", desk.third(1 << c), true);
      DUE.is("boyce: column " + c + " alone", desk.boyce(1 << c), true);
    }
    DUE.is("third: nothing reaches a column", desk.third(17), false);
    DUE.is("boyce: nothing reaches a column", desk.boyce(17), false);
    DUE.is("third: nothing reaches all of S", Desks.singles(0, 17).third(17), true);
    DUE.is("boyce: nothing reaches all of S", Desks.singles(0, 17).boyce(17), true);
    DUE.is("third: a column outside S is reached", Desks.singles(2, 4).third(59), true);
    DUE.is("boyce: a column outside S is reached", Desks.singles(2, 4).boyce(59), true);
    DUE.is("third: a left side outside S", Desks.singles(2, 4).third(61), true);
    DUE.is("boyce: a left side outside S", Desks.singles(2, 4).boyce(61), true);
    DUE.is("third: in a key of S, though in none of all", Desks.singles(3, 4, 4, 2, 8, 7).third(7), true);
    DUE.is("boyce: in a key of S is not enough", Desks.singles(3, 4, 4, 2, 8, 7).boyce(7), false);
    DUE.is("third: all but one column, all needed", Desks.singles(31, 32).third(63), true);
    DUE.is("boyce: all but one column, all needed", Desks.singles(31, 32).boyce(63), true);
    // The keys are 61 and 62, and column 1 is in 62 alone.
    DUE.is("third: in the last key of all", Desks.singles(62, 1, 1, 2).third(63), true);
    DUE.is("boyce: in the last key of all is not enough", Desks.singles(62, 1, 1, 2).boyce(63), false);
    DUE.is("third: all columns, none given", new DependencyDesk().third(63), true);
    DUE.is("boyce: all columns, none given", new DependencyDesk().boyce(63), true);
    DUE.is("third: bundled ones alone reach nothing", Desks.bundled(1, 2).third(63), true);
    DUE.is("boyce: bundled ones alone reach nothing", Desks.bundled(1, 2).boyce(63), true);
  }

  // ---- Terms: "By the single dependencies alone"

  private static void termsOfParts() {
    DependencyDesk bundled = Desks.bundled(1, 6);
    Desks.parts(bundled, 7, 57);
    DUE.is("lossless: a bundled one alone", bundled.lossless(), false);
    DUE.is("preserves: a bundled one alone", bundled.preserves(), true);
    bundled.give(1, 6, 0);
    DUE.is("lossless: the same as a single one", bundled.lossless(), true);
    // 1 ->> 6 and 8 -> 2 give 1 -> 2, but 8 -> 2 by itself does not.
    DependencyDesk mixed = Desks.singles(8, 2, 1, 2);
    mixed.give(1, 6, 1);
    Desks.parts(mixed, 10);
    DUE.is("preserves: with the help of a bundled one", mixed.preserves(), false);
    DependencyDesk first = Desks.bundled(1, 6);
    first.give(8, 2, 0);
    first.give(17, 2, 0);
    Desks.parts(first, 10, 3);
    DUE.is("preserves: with the help of a bundled one that has number 0", first.preserves(), false);
    Desks.parts(first, 3, 61);
    DUE.is("lossless: with the help of a bundled one that has number 0", first.lossless(), false);
  }

  // ---- Promise 1: "No dependency, no part, no row."

  private static void newObject() {
    DependencyDesk desk = new DependencyDesk();
    DUE.is("1: no dependency to take", desk.take(), NONE);
    DUE.is("1: the first dependency", desk.give(63, 63, 0), 0);
    DUE.is("1: no part", desk.lossless(), false);
    DUE.is("1: the first part", desk.part(63), 1);
    DUE.is("1: no row to write in", desk.write(0, 0, 1), BAD_ARG);
    DUE.is("1: the first row", desk.row(), 0);
    DependencyDesk other = new DependencyDesk();
    DUE.is("1: another object has none of its dependencies", other.take(), NONE);
    DUE.is("1: another object has none of its parts", other.part(63), 1);
    DUE.is("1: another object has none of its rows", other.row(), 0);
    DUE.is("1: the first object has its own alone", desk.row(), 1);
  }

  // ---- Promise 2: "(bundled 0) or X ->> Y (else)"; "FULL if 10 are given."; "Otherwise its number."

  private static void give() {
    for (int bit = 0; bit < 32; bit++) {
      for (int bundled : new int[] {1 << bit, -(1 << bit), ~(1 << bit)}) {
        DependencyDesk desk = new DependencyDesk();
        desk.give(1, 2, bundled);
        DUE.is("2: bundled " + bundled + " is not 0", desk.closure(1), 1);
        DUE.is("2: bundled " + bundled, desk.bundles(1, 2), true);
      }
    }
    DUE.is("2: bundled 0", Desks.singles(1, 2).closure(1), 3);
    DependencyDesk desk = new DependencyDesk();
    for (int i = 0; i < 10; i++) {
      DUE.is("2: number " + i, desk.give(1, 2, 0), i);
    }
    DUE.is("2: an eleventh", desk.give(1, 4, 0), FULL);
    DUE.is("2: an eleventh, bundled", desk.give(1, 4, 1), FULL);
    DUE.is("2: an eleventh that is there already", desk.give(1, 2, 0), FULL);
    DUE.is("2: the eleventh is not given", desk.closure(1), 3);
    desk.take();
    DUE.is("2: room for one again", desk.give(1, 8, 0), 9);
    DUE.is("2: it is given", desk.closure(1), 11);
    DUE.is("2: full again", desk.give(1, 16, 0), FULL);
    eachOfTenCounts();
  }

  private static void eachOfTenCounts() {
    for (int place = 0; place < 10; place++) {
      DependencyDesk desk = new DependencyDesk();
      for (int i = 0; i < 10; i++) {
        desk.give(i == place ? 0 : 63, 32, 0);
      }
      String which = "2: number " + place + " of ten counts, ";
      DUE.is(which + "closure(0)", desk.closure(0), 32);
      DUE.is(which + "follows(0, 32)", desk.follows(0, 32), true);
      DUE.is(which + "bundles(0, 32)", desk.bundles(0, 32), true);
      DUE.is(which + "needs(0, 32)", desk.needs(0, 32), 1);
      DUE.is(which + "key(0)", desk.key(0), 31);
      DUE.is(which + "closed()", desk.closed(), 32);
      DUE.is(which + "corners()", desk.corners(), 5);
      DUE.is(which + "stems()", desk.stems(), 1);
      DUE.is(which + "stem(0)", desk.stem(0), 0);
      DUE.is(which + "third(48)", desk.third(48), false);
      DUE.is(which + "boyce(48)", desk.boyce(48), false);
      DUE.is(which + "fourth()", desk.fourth(), false);
      DUE.is(which + "preserves()", desk.preserves(), false);
      Desks.parts(desk, 31, 32);
      DUE.is(which + "lossless()", desk.lossless(), true);
      Desks.rows(desk, "000000", "100000", "010000", "001000", "000100", "000010");
      DUE.is(which + "exact()", desk.exact(), true);
      DependencyDesk keys = new DependencyDesk();
      for (int i = 0; i < 10; i++) {
        keys.give(i == place ? 12 : 3, i == place ? 51 : 60, 0);
      }
      DUE.is(which + "keys()", keys.keys(), 2);
    }
  }

  // ---- Promise 3: "the dependency with the greatest number"; "NONE if there is none."; "how many .. without it"

  private static void take() {
    DependencyDesk desk = new DependencyDesk();
    DUE.is("3: none there", desk.take(), NONE);
    for (int i = 0; i < 10; i++) {
      desk.give(i < 6 ? 1 << i : 63, 1 << (i + 1) % 6, 0);
    }
    for (int i = 9; i >= 0; i--) {
      DUE.is("3: so many are left", desk.take(), i);
      DUE.is("3: the first ones are left", desk.closure(1), i >= 5 ? 63 : (2 << i) - 1);
    }
    DUE.is("3: none left", desk.take(), NONE);
    DUE.is("3: still none left", desk.take(), NONE);
    DUE.is("3: the next has number 0", desk.give(2, 4, 0), 0);
    DUE.is("3: what was taken away does not come back", desk.closure(1), 1);
    emptiedIsAsNew();
  }

  private static void emptiedIsAsNew() {
    DependencyDesk desk = new DependencyDesk();
    for (int[] one : Desks.TEN) {
      desk.give(one[0], one[1], one[2]);
    }
    Desks.parts(desk, 63, 7, 11, 19);
    Desks.rows(desk, Desks.SIX_ROWS);
    for (int i = 0; i < 10; i++) {
      desk.take();
    }
    desk.whole();
    desk.blank();
    DependencyDesk other = new DependencyDesk();
    DUE.is("3, 18, 23: emptied is as new", Shown.asked(desk).equals(Shown.asked(other)), true);
    DUE.is("3, 18, 23: emptied has nothing in it", Shown.drawnOut(desk).equals(Shown.drawnOut(other)), true);
  }

  // ---- Promise 4: "The closure of X."

  private static void closure() {
    for (int x = 0; x < 64; x++) {
      DUE.is("4: none given, closure(" + x + ")", new DependencyDesk().closure(x), x);
      DUE.is("4: all from nothing, closure(" + x + ")", Desks.singles(0, 63).closure(x), 63);
      DUE.is("4: a ring, closure(" + x + ")", Desks.ring().closure(x), x == 0 ? 0 : 63);
      DUE.is("4: bundled alone, closure(" + x + ")", Desks.bundled(0, 1, 1, 6, 0, 8).closure(x), x);
    }
  }

  // ---- Promise 7: "The least number of given dependencies"; "NONE if it does not follow"

  private static void needs() {
    DependencyDesk ten = new DependencyDesk();
    for (int[] one : Desks.TEN) {
      ten.give(one[0], one[1], one[2]);
    }
    DUE.is("7: all ten", ten.needs(0, 47), 10);
    ten.take();
    DUE.is("7: nine of the ten", ten.needs(0, 47), NONE);
    ten.give(0, 47, 0);
    DUE.is("7: one, not nine", ten.needs(0, 47), 1);
    DUE.is("7: none of them", ten.needs(47, 47), 0);
    DUE.is("7: none of them for nothing", ten.needs(0, 0), 0);
    DUE.is("7: none given, none needed", new DependencyDesk().needs(63, 63), 0);
    DUE.is("7: none given, does not follow", new DependencyDesk().needs(62, 1), NONE);
    DUE.is("7: bundled ones alone, does not follow", Desks.bundled(0, 1, 1, 2).needs(0, 1), NONE);
    DUE.is("7: the same ten times",
        Desks.singles(1, 2, 1, 2, 1, 2, 1, 2, 1, 2, 1, 2, 1, 2, 1, 2, 1, 2, 1, 2).needs(1, 2), 1);
    DUE.is("7: a short way by the last", Desks.singles(1, 2, 2, 4, 4, 8, 1, 8).needs(1, 8), 1);
    DUE.is("7: a short way by the first", Desks.singles(1, 8, 1, 2, 2, 4, 4, 8).needs(1, 8), 1);
  }

  // ---- Promises 8 and 9: "Key i, counted from 0, by rising numbers of the sets; NONE if there is none."

  private static void keys() {
    DUE.is("8: never none", new DependencyDesk().keys(), 1);
    DUE.is("8: nothing as the only one", Desks.singles(0, 63).keys(), 1);
    DependencyDesk ring = Desks.singles(32, 1, 16, 32, 8, 16, 4, 8, 2, 4, 1, 2);
    DUE.is("8: each column", ring.keys(), 6);
    for (int i = 0; i < 6; i++) {
      DUE.is("9: key(" + i + "), given falling", ring.key(i), 1 << i);
    }
    DUE.is("9: one more than there are", ring.key(6), NONE);
    DependencyDesk sizes = Desks.singles(32, 31, 3, 60);
    DUE.is("9: rising by number, not by size, first", sizes.key(0), 3);
    DUE.is("9: rising by number, not by size, second", sizes.key(1), 32);
    // What the low bits of these say must not be taken for an index.
    for (int i : new int[] {-1, -6, -64, MIN, MIN + 1, 64, 128, 256, 1 << 16, 1 << 30, MAX}) {
      DUE.is("9: key(" + i + ")", ring.key(i), NONE);
    }
  }

  // ---- Promises 10 and 11: "other than 63, that are not the intersection of closed sets that are larger"

  private static void closedAndCorners() {
    DUE.is("10: all 64", new DependencyDesk().closed(), 64);
    DUE.is("10: 63 alone", Desks.singles(0, 63).closed(), 1);
    DUE.is("10: nothing and 63", Desks.ring().closed(), 2);
    DUE.is("10: all but one", Desks.singles(31, 32).closed(), 63);
    DUE.is("11: 63 is none", Desks.singles(0, 63).corners(), 0);
    DUE.is("11: nothing, below 63 alone", Desks.ring().corners(), 1);
    DUE.is("11: one set below 63", Desks.singles(0, 31).corners(), 1);
    DUE.is("11: those of five columns", new DependencyDesk().corners(), 6);
    // 31 is no longer closed; the five sets of four columns below it now meet no second one there.
    DUE.is("11: one of five columns is lost", Desks.singles(31, 32).corners(), 10);
    DUE.is("11: a set is not larger than itself", Desks.singles(0, 60, 1, 2).corners(), 2);
  }

  // ---- Promises 12 and 13: "Stem i, counted from 0, by rising numbers of the sets; NONE if there is none."

  private static void stems() {
    DUE.is("12: none", new DependencyDesk().stems(), 0);
    DUE.is("12: none by bundled ones alone", Desks.bundled(0, 1, 1, 6).stems(), 0);
    DUE.is("12: nothing as the only one", Desks.singles(0, 63).stems(), 1);
    DUE.is("13: the first of none", new DependencyDesk().stem(0), NONE);
    DependencyDesk ring = Desks.singles(32, 1, 16, 32, 8, 16, 4, 8, 2, 4, 1, 2);
    DUE.is("12: each column", ring.stems(), 6);
    for (int i = 0; i < 6; i++) {
      DUE.is("13: stem(" + i + "), given falling", ring.stem(i), 1 << i);
    }
    DUE.is("13: one more than there are", ring.stem(6), NONE);
    DependencyDesk sizes = Desks.singles(32, 31, 3, 4);
    DUE.is("13: rising by number, not by size, first", sizes.stem(0), 3);
    DUE.is("13: rising by number, not by size, second", sizes.stem(1), 32);
    for (int i : new int[] {-1, -6, -64, MIN, MIN + 1, 64, 128, 256, 1 << 16, 1 << 30, MAX}) {
      DUE.is("13: stem(" + i + ")", ring.stem(i), NONE);
    }
  }

  // ---- Promise 16: "Y is a subset of X, X and Y together are 63, or the closure of X is 63"

  private static void fourth() {
    DUE.is("16: none given", new DependencyDesk().fourth(), true);
    DUE.is("16: Y is a subset of X", Desks.bundled(7, 3).fourth(), true);
    DUE.is("16: Y is X", Desks.bundled(7, 7).fourth(), true);
    DUE.is("16: X and Y together are 63", Desks.bundled(7, 56).fourth(), true);
    DUE.is("16: X and Y share columns and together are 63", Desks.bundled(7, 60).fourth(), true);
    DUE.is("16: one column is lacking", Desks.bundled(7, 24).fourth(), false);
    DUE.is("16: one column on the right", Desks.bundled(15, 16).fourth(), false);
    DUE.is("16: four columns on the right", Desks.bundled(1, 30).fourth(), false);
    DUE.is("16: the closure of X is 63", Desks.singles(7, 56).fourth(), true);
    DUE.is("16: the closure of X lacks one column", Desks.singles(7, 24).fourth(), false);
    DUE.is("16: all from nothing", Desks.singles(0, 63).fourth(), true);
    DUE.is("16: nothing on the left", Desks.bundled(0, 1).fourth(), false);
    DUE.is("16: nothing on the left, all but one on the right", Desks.bundled(0, 31).fourth(), false);
  }

  // ---- Promises 17 and 18: "FULL if there are 4. Otherwise the number of parts."; "No part from now on."

  private static void parts() {
    DependencyDesk desk = new DependencyDesk();
    desk.whole();
    for (int i = 1; i <= 4; i++) {
      DUE.is("17: the number of parts", desk.part(0), i);
    }
    DUE.is("17: a fifth", desk.part(63), FULL);
    DUE.is("17: a sixth", desk.part(0), FULL);
    DUE.is("17: the fifth is no part", desk.lossless(), false);
    desk.whole();
    DUE.is("18: none is lossless", desk.lossless(), false);
    DUE.is("18: the first again", desk.part(31), 1);
    DUE.is("18: the second again", desk.part(32), 2);
    desk.whole();
    desk.whole();
    DUE.is("18: twice", desk.part(63), 1);
    DUE.is("18: with that part", desk.lossless(), true);
    for (int place = 0; place < 4; place++) {
      desk.whole();
      for (int i = 0; i < 4; i++) {
        desk.part(i == place ? 63 : 0);
      }
      DUE.is("17: part " + place + " of four counts", desk.lossless(), true);
    }
    desk.whole();
    desk.part(31);
    DUE.is("18: what was there does not come back", desk.lossless(), false);
  }

  // ---- Promise 19: "Whether the parts are lossless; false if there is none."

  private static void lossless() {
    DUE.is("19: none, none given", new DependencyDesk().lossless(), false);
    DUE.is("19: none, all from nothing", Desks.singles(0, 63).lossless(), false);
    DependencyDesk desk = Desks.singles(0, 63);
    Desks.parts(desk, 0);
    DUE.is("19: a part of nothing, all from nothing", desk.lossless(), false);
    for (int c = 0; c < 6; c++) {
      Desks.parts(desk, 63 & ~(1 << c));
      DUE.is("19: column " + c + " lies in no part", desk.lossless(), false);
      Desks.parts(desk, 63 & ~(1 << c), 1 << c);
      DUE.is("19: column " + c + " in a part of its own", desk.lossless(), true);
    }
    Desks.parts(desk, 3, 12, 48);
    DUE.is("19: all from nothing, nothing shared", desk.lossless(), true);
    Desks.parts(desk, 9, 18, 4, 32);
    DUE.is("19: all from nothing, four parts", desk.lossless(), true);
    DependencyDesk none = new DependencyDesk();
    Desks.parts(none, 63);
    DUE.is("19: one part of all, none given", none.lossless(), true);
    Desks.parts(none, 31, 62, 61, 59);
    DUE.is("19: four parts of five columns, none given", none.lossless(), false);
    Desks.parts(none, 0, 0, 0, 63);
    DUE.is("19: one of all beside parts of nothing", none.lossless(), true);
    DependencyDesk five = Desks.singles(15, 16);
    Desks.parts(five, 31, 47);
    DUE.is("19: all but one column shared", five.lossless(), true);
    five.take();
    DUE.is("19: all but one column shared, none given", five.lossless(), false);
  }

  // ---- Promise 20: "Whether the parts preserve.", with none and with parts of nothing

  private static void preserves() {
    DUE.is("20: no part, none given", new DependencyDesk().preserves(), true);
    DUE.is("20: no part, right within left", Desks.singles(63, 63, 0, 0, 5, 4).preserves(), true);
    DUE.is("20: no part, right beyond left", Desks.singles(5, 6).preserves(), false);
    DUE.is("20: no part, the last one is lost", Desks.singles(1, 1, 2, 2, 4, 5).preserves(), false);
    DUE.is("20: no part, bundled ones alone", Desks.bundled(0, 1, 1, 2).preserves(), true);
    DependencyDesk desk = Desks.singles(0, 1);
    Desks.parts(desk, 0, 0, 0, 0);
    DUE.is("20: parts of nothing", desk.preserves(), false);
    Desks.parts(desk, 0, 62, 62, 1);
    DUE.is("20: the fourth part has it", desk.preserves(), true);
    DependencyDesk edge = Desks.singles(31, 32);
    Desks.parts(edge, 62, 61, 59, 55);
    DUE.is("20: it lies in no part with all its columns", edge.preserves(), false);
    Desks.parts(edge, 63);
    DUE.is("20: it lies in a part of all", edge.preserves(), true);
    DependencyDesk round = Desks.singles(16, 32, 8, 16, 4, 8, 2, 4, 1, 2, 1, 32);
    Desks.parts(round, 48, 24, 12, 6);
    DUE.is("20: the first step is lost", round.preserves(), false);
    Desks.parts(round, 56, 12, 6, 3);
    DUE.is("20: four parts, five steps", round.preserves(), true);
    DependencyDesk taken = Desks.singles(1, 2, 4, 9);
    Desks.parts(taken, 3);
    DUE.is("20: one lies in a part, one is lost", taken.preserves(), false);
    taken.take();
    DUE.is("20: the lost one is taken away", taken.preserves(), true);
  }

  // ---- Promise 21: "Appends a row of 0s. FULL if there are 6. Otherwise its number, from 0 on."

  private static void rows() {
    DependencyDesk desk = new DependencyDesk();
    for (int r = 0; r < 6; r++) {
      DUE.is("21: its number", desk.row(), r);
      for (int c = 0; c < 6; c++) {
        DUE.is("21: 0 in row " + r + ", column " + c, desk.write(r, c, -7), 0);
      }
    }
    DUE.is("21: a seventh", desk.row(), FULL);
    DUE.is("21: an eighth", desk.row(), FULL);
    for (int r = 0; r < 6; r++) {
      for (int c = 0; c < 6; c++) {
        DUE.is("21: the seventh is no row of 0s in row " + r + ", column " + c, desk.write(r, c, 5), -7);
      }
    }
    DUE.is("21: no row 6", desk.write(6, 0, 1), BAD_ARG);
    desk.blank();
    DUE.is("21: number 0 again", desk.row(), 0);
    for (int c = 0; c < 6; c++) {
      DUE.is("21: 0 again in column " + c, desk.write(0, c, 1), 0);
    }
  }

  // ---- Promise 22: "BAD_ARG if there is no such row or column. Otherwise what it was."

  private static void write() {
    DependencyDesk desk = new DependencyDesk();
    DUE.is("22: no row at all", desk.write(0, 0, 1), BAD_ARG);
    desk.row();
    desk.row();
    DUE.is("22: one row too far", desk.write(2, 0, 1), BAD_ARG);
    DUE.is("22: one row too near", desk.write(-1, 5, 1), BAD_ARG);
    DUE.is("22: column 6 is not column 0 of the next row", desk.write(0, 6, 1), BAD_ARG);
    DUE.is("22: column -1 is not column 5 of the row before", desk.write(1, -1, 1), BAD_ARG);
    // Six times these rows wraps around to cells that are there.
    DUE.is("22: a row that wraps around to row 0", desk.write(MIN, 0, 1), BAD_ARG);
    DUE.is("22: a row that wraps around into row 0", desk.write(715827883, 0, 1), BAD_ARG);
    DUE.is("22: a row that wraps around from below", desk.write(-715827882, 1, 1), BAD_ARG);
    DUE.is("22: a column that makes up for the row", desk.write(-1, 6, 1), BAD_ARG);
    DUE.is("22: a row that makes up for the column", desk.write(1, -6, 1), BAD_ARG);
    for (int r = 0; r < 2; r++) {
      for (int c = 0; c < 6; c++) {
        DUE.is("22: nothing was written", desk.write(r, c, 0), 0);
      }
    }
    for (int code : new int[] {BAD_ARG, FULL, NONE, 0}) {
      desk.write(1, 5, code);
      DUE.is("22: a number that is a code, too", desk.write(1, 5, code), code);
    }
    DUE.is("22: no row was appended", desk.row(), 2);
    DUE.is("22: now there is such a row", desk.write(2, 0, 1), 0);
  }

  // ---- Promise 23: "No row from now on."

  private static void blank() {
    DependencyDesk desk = new DependencyDesk();
    desk.blank();
    DUE.is("23: of none", desk.row(), 0);
    desk.blank();
    Desks.rows(desk, Desks.SIX_ROWS);
    desk.blank();
    for (int r = 0; r < 6; r++) {
      DUE.is("23: no row " + r, desk.write(r, 0, 1), BAD_ARG);
    }
    DUE.is("23: no two rows", desk.agreements(), 0);
    DUE.is("23: all is kept", desk.keeps(0, 63), true);
    DUE.is("23: all is kept bundled", desk.keepsBundled(0, 1), true);
    DUE.is("23: all is discovered", desk.discovered(), 6);
    for (int r = 0; r < 6; r++) {
      DUE.is("23: room for row " + r, desk.row(), r);
    }
    DUE.is("23: all rows are of 0s", desk.keeps(0, 63), true);
  }

  // ---- Promises 24 and 25: the table at hand, full and with the same row at two places

  private static void keeps() {
    for (int r = 0; r < 6; r++) {
      for (int s = 0; s < 6; s++) {
        if (r != s) {
          DependencyDesk desk = new DependencyDesk();
          for (int t = 0; t < 6; t++) {
            desk.row();
            desk.write(t, 0, t == r || t == s ? 9 : t);
            desk.write(t, 1, t == s ? 1 : 0);
          }
          String rows = "rows " + r + " and " + s + " of six";
          DUE.is("24: " + rows + " break it", desk.keeps(1, 2), false);
          DUE.is("25: " + rows + " lack none", desk.keepsBundled(1, 2), true);
          desk.write(r, 5, 1);
          DUE.is("25: " + rows + " lack one", desk.keepsBundled(1, 2), false);
        }
      }
    }
    oneRowIsLacking();
    DependencyDesk twice = Desks.withRows("123456", "123456");
    DUE.is("24: the same row at two places", twice.keeps(0, 63), true);
    DUE.is("25: the same row at two places", twice.keepsBundled(0, 1), true);
  }

  /** "for any two rows r and s", in either order and at any places: no row may be left out. */
  private static void oneRowIsLacking() {
    String[] four = {"000000", "100000", "010000", "110000"};
    for (int first = 0; first < 4; first++) {
      for (int lacking = 0; lacking < 4; lacking++) {
        DependencyDesk desk = new DependencyDesk();
        for (int i = 0; i < 4; i++) {
          int place = (first + i) % 4;
          Desks.rows(desk, four[place == lacking ? (lacking + 1) % 4 : place]);
        }
        String which = four[lacking] + " is lacking, from " + four[first];
        DUE.is("25: " + which, desk.keepsBundled(0, 1), false);
        DUE.is("25: " + which + ", the other column", desk.keepsBundled(0, 2), false);
        DUE.is("25: " + which + ", from one column", desk.keepsBundled(1, 2), true);
      }
      DependencyDesk all = Desks.withRows(four);
      DUE.is("25: none is lacking", all.keepsBundled(0, 1), true);
      all.write(first, 5, 1);
      DUE.is("25: one is no longer the same", all.keepsBundled(0, 1), false);
    }
  }

  // ---- Promise 26: "X' -> (c alone) for no smaller subset X' of X"

  private static void discovered() {
    DUE.is("26: no row: each column from nothing alone", new DependencyDesk().discovered(), 6);
    DUE.is("26: one row: each column from nothing alone", Desks.withRows("123456").discovered(), 6);
    DUE.is("26: six times the same row",
        Desks.withRows("123456", "123456", "123456", "123456", "123456", "123456").discovered(), 6);
    DUE.is("26: nothing but column 5 from nothing",
        Desks.withRows("000000", "100000", "010000", "001000", "000100", "000010").discovered(), 1);
    DUE.is("26: two rows that agree on nothing: each column from each other one",
        Desks.withRows("000000", "111111").discovered(), 30);
    DUE.is("26: each column from all the others", Desks.withRows(EACH_FROM_ALL_OTHERS).discovered(), 6);
    // Columns 3 to 5 from nothing; what column 0 or column 1 reaches, the two together do not count.
    DUE.is("26: columns 0 and 2 from each other",
        Desks.withRows("000000", "010000", "101000", "111000").discovered(), 5);
    DUE.is("26: columns 1 and 2 from each other",
        Desks.withRows("000000", "100000", "011000", "111000").discovered(), 5);
    DUE.is("26: columns 0 and 1 from each other",
        Desks.withRows("000000", "001000", "110000", "111000").discovered(), 5);
    DUE.is("26: two rows that differ in column 0: none reaches it, nothing reaches the others",
        Desks.withRows("000000", "100000").discovered(), 5);
  }

  // ---- Promises 27 and 29: "the same numbers in all columns count as two different rows, too (their set is 63)"

  private static void agreements() {
    DUE.is("27: no row", new DependencyDesk().agreements(), 0);
    DUE.is("27: one row is not two", Desks.withRows("123456").agreements(), 0);
    DUE.is("27: two rows, the set is nothing", Desks.withRows("000000", "111111").agreements(), 1);
    DUE.is("27: six rows, the set is always nothing",
        Desks.withRows("000000", "111111", "222222", "333333", "444444", "555555").agreements(), 1);
    DUE.is("27: six rows, all sets differ", Desks.withRows(Desks.SIX_ROWS).agreements(), 15);
    DUE.is("29: rows of 0s", Desks.withRows("000000", "000000").agreements(), 1);
    DUE.is("29: six times the same row",
        Desks.withRows("123456", "123456", "123456", "123456", "123456", "123456").agreements(), 1);
    for (int r = 0; r < 6; r++) {
      for (int s = 0; s < r; s++) {
        DependencyDesk desk = new DependencyDesk();
        for (int t = 0; t < 6; t++) {
          desk.row();
          for (int c = 0; c < 6; c++) {
            desk.write(t, c, t == r ? s : t);
          }
        }
        DUE.is("29: the same row at places " + s + " and " + r, desk.agreements(), 2);
        desk.write(r, 0, 7);
        DUE.is("29: no longer the same", desk.agreements(), 2);
        desk.write(s, 0, 7);
        DUE.is("29: the same once more", desk.agreements(), 2);
        desk.blank();
        DUE.is("29: no row", desk.agreements(), 0);
      }
    }
  }

  // ---- Promise 28: "keeps exactly those X -> Y that follow", where all is kept or all follows

  private static void exact() {
    DUE.is("28: no row keeps all, none given", new DependencyDesk().exact(), false);
    DUE.is("28: no row keeps all, all follows", Desks.singles(0, 63).exact(), true);
    DUE.is("28: no row keeps all, all but one column follows", Desks.singles(0, 31).exact(), false);
    DependencyDesk one = Desks.singles(0, 63);
    one.row();
    DUE.is("28: one row keeps all, all follows", one.exact(), true);
    Desks.rows(one, "000000", "000000", "000000", "000000", "000000");
    DUE.is("28: the same row at six places, all follows", one.exact(), true);
    one.write(5, 5, 1);
    DUE.is("28: all follows, but is not kept", one.exact(), false);
    one.take();
    DUE.is("28: more is kept than follows", one.exact(), false);
    one.give(0, 31, 0);
    DUE.is("28: just as much is kept", one.exact(), true);
    DependencyDesk most = Desks.withRows("000000", "100000", "010000", "001000", "000100", "000010");
    DUE.is("28: six rows keep something, none given", most.exact(), false);
    most.give(0, 32, 0);
    DUE.is("28: six rows keep just that", most.exact(), true);
    most.give(0, 1, 1);
    DUE.is("28: the rows need not keep a bundled one", most.keepsBundled(0, 1), false);
    DUE.is("28: and no single one more follows from it", most.exact(), true);
    exactButForOne();
  }

  private static void exactButForOne() {
    DependencyDesk all = Desks.singles(62, 1, 61, 2, 59, 4, 55, 8, 47, 16, 31, 32);
    Desks.rows(all, EACH_FROM_ALL_OTHERS);
    DUE.is("28: each column from all the others", all.exact(), true);
    for (int lacking = 0; lacking < 6; lacking++) {
      DependencyDesk desk = new DependencyDesk();
      for (int c = 0; c < 6; c++) {
        if (c != lacking) {
          desk.give(63 & ~(1 << c), 1 << c, 0);
        }
      }
      Desks.rows(desk, EACH_FROM_ALL_OTHERS);
      DUE.is("28: all of these but column " + lacking, desk.exact(), false);
    }
  }

  // ---- "An object is used for at most 512 calls": the last of them answers as the first

  private static void lastCall() {
    DependencyDesk desk = new DependencyDesk();
    for (int i = 0; i < 127; i++) {
      desk.give(1, 2, 0);
      desk.row();
      desk.take();
      desk.blank();
    }
    DUE.is("call 509", desk.give(1, 2, 0), 0);
    DUE.is("call 510", desk.part(63), 1);
    DUE.is("call 511", desk.row(), 0);
    DUE.is("call 512", desk.closure(1), 3);
  }
}
