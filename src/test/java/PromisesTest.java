import java.util.ArrayList;
import java.util.Arrays;
import java.util.HashSet;
import java.util.List;
import java.util.Set;

/** Each promise of the document by itself: ordinary inputs, the edges it names, and wrong inputs. */
public final class PromisesTest {
  private static final int MIN = Desks.MIN;
  private static final int MAX = Desks.MAX;
  private static final int[] NO_SETS = Desks.NO_SETS;
  private static final Due DUE = new Due("PromisesTest");

  public static void main(String[] args) {
    constants();
    newObject();
    give();
    take();
    closure();
    follows();
    bundles();
    needs();
    keys();
    key();
    closed();
    corners();
    stems();
    stem();
    third();
    boyce();
    fourth();
    part();
    whole();
    lossless();
    losslessEdges();
    losslessByLongWays();
    preserves();
    preservesByLongWays();
    row();
    write();
    blank();
    keeps();
    keepsBundled();
    discovered();
    agreements();
    exact();
    exactFromNothing();
    tenth();
    orderAndLimits();
    DUE.end();
  }

  private static void constants() {
    DUE.is("BAD_ARG", DependencyDesk.BAD_ARG, -1);
    DUE.is("FULL", DependencyDesk.FULL, -2);
    DUE.is("NONE", DependencyDesk.NONE, -3);
  }

  private static void newObject() {
    DependencyDesk desk = new DependencyDesk();
    DUE.is("1: take()", desk.take(), -3);
    DUE.is("1: lossless()", desk.lossless(), false);
    DUE.is("1: preserves()", desk.preserves(), true);
    DUE.is("1: write(0, 0, 5)", desk.write(0, 0, 5), -1);
    DUE.is("1: agreements()", desk.agreements(), 0);
    for (int x = 0; x < 64; x++) {
      DUE.is("1: closure(" + x + ")", desk.closure(x), x);
    }
    DUE.is("1: give(1, 2, 0)", desk.give(1, 2, 0), 0);
    DUE.is("1: part(1)", desk.part(1), 1);
    DUE.is("1: row()", desk.row(), 0);
    DUE.is("1: a second object's closure(1)", new DependencyDesk().closure(1), 1);
  }

  private static void give() {
    DependencyDesk desk = new DependencyDesk();
    for (int bad : NO_SETS) {
      DUE.is("2: give(" + bad + ", 1, 0)", desk.give(bad, 1, 0), -1);
      DUE.is("2: give(1, " + bad + ", 1)", desk.give(1, bad, 1), -1);
    }
    for (int i = 0; i < 10; i++) {
      DUE.is("2: give number " + i, desk.give(63, i, i), i);
    }
    DUE.is("2: closure(0) before an eleventh", desk.closure(0), 0);
    DUE.is("2: an eleventh", desk.give(0, 63, 0), -2);
    DUE.is("2: an eleventh with no set", desk.give(64, 0, 0), -1);
    DUE.is("2: an eleventh with no set on the right", desk.give(0, -1, 0), -1);
    DUE.is("2: closure(0) after an eleventh", desk.closure(0), 0);
    DUE.is("2: take() after refused ones", desk.take(), 9);
    DUE.is("2: give after take", desk.give(0, 63, 0), 9);
    DUE.is("2: closure(0) after that", desk.closure(0), 63);
    for (int bundled : new int[] {1, 2, -1, 1 << 8, 1 << 16, MIN, MAX}) {
      DependencyDesk other = new DependencyDesk();
      other.give(1, 6, bundled);
      DUE.is("2: bundled " + bundled + ", follows(1, 6)", other.follows(1, 6), false);
      DUE.is("2: bundled " + bundled + ", bundles(1, 6)", other.bundles(1, 6), true);
    }
  }

  private static void take() {
    DependencyDesk desk = Desks.singles(1, 2, 2, 4);
    DUE.is("3: closure(1) with two", desk.closure(1), 7);
    DUE.is("3: take()", desk.take(), 1);
    DUE.is("3: closure(1) with one", desk.closure(1), 3);
    DUE.is("3: closure(2) with one", desk.closure(2), 2);
    DUE.is("3: give in its place", desk.give(2, 8, 0), 1);
    DUE.is("3: closure(1) with another", desk.closure(1), 11);
    DUE.is("3: take() again", desk.take(), 1);
    DUE.is("3: take() the first", desk.take(), 0);
    DUE.is("3: closure(1) with none", desk.closure(1), 1);
    DUE.is("3: take() of none", desk.take(), -3);
    DUE.is("3: take() of none again", desk.take(), -3);
    DUE.is("3: give after that", desk.give(1, 2, 1), 0);
    DUE.is("3: bundled then single in the same place", desk.take(), 0);
    DUE.is("3: give single", desk.give(1, 2, 0), 0);
    DUE.is("3: follows(1, 2)", desk.follows(1, 2), true);
  }

  private static void closure() {
    DependencyDesk desk = Desks.singles(3, 4, 4, 8, 12, 48);
    DUE.is("4: closure(0)", desk.closure(0), 0);
    DUE.is("4: closure(1)", desk.closure(1), 1);
    DUE.is("4: closure(3)", desk.closure(3), 63);
    DUE.is("4: closure(4)", desk.closure(4), 60);
    DUE.is("4: closure(8)", desk.closure(8), 8);
    DUE.is("4: closure(63)", desk.closure(63), 63);
    for (int bad : NO_SETS) {
      DUE.is("4: closure(" + bad + ")", desk.closure(bad), -1);
    }
    DependencyDesk mixed = Desks.singles(8, 2);
    mixed.give(1, 6, 1);
    DUE.is("4: closure(1) by way of a bundled one", mixed.closure(1), 3);
    DUE.is("4: closure(5) by way of a bundled one", mixed.closure(5), 7);
    DUE.is("4: closure(4)", mixed.closure(4), 4);
    DUE.is("4: closure of nothing", Desks.singles(0, 32).closure(0), 32);
  }

  private static void follows() {
    DependencyDesk desk = Desks.singles(1, 2, 2, 4);
    DUE.is("5: follows(1, 4)", desk.follows(1, 4), true);
    DUE.is("5: follows(1, 7)", desk.follows(1, 7), true);
    DUE.is("5: follows(9, 14)", desk.follows(9, 14), true);
    DUE.is("5: follows(1, 12)", desk.follows(1, 12), false);
    DUE.is("5: follows(4, 1)", desk.follows(4, 1), false);
    DUE.is("5: follows(0, 0)", desk.follows(0, 0), true);
    DUE.is("5: follows(63, 63)", desk.follows(63, 63), true);
    DUE.is("5: nothing reaches none of a ring", Desks.ring().follows(0, 1), false);
    DUE.is("5: one reaches all of a ring", Desks.ring().follows(32, 31), true);
    for (int bad : NO_SETS) {
      DUE.is("5: follows(" + bad + ", 0)", desk.follows(bad, 0), false);
      DUE.is("5: follows(63, " + bad + ")", desk.follows(63, bad), false);
    }
  }

  private static void bundles() {
    DependencyDesk desk = Desks.singles(8, 2);
    desk.give(1, 6, 1);
    DUE.is("6: the given one", desk.bundles(1, 6), true);
    DUE.is("6: the rest of it", desk.bundles(1, 56), true);
    DUE.is("6: the rest with the left side", desk.bundles(1, 57), true);
    DUE.is("6: a single one is bundled, too", desk.bundles(8, 2), true);
    DUE.is("6: split by the single one", desk.bundles(1, 4), true);
    DUE.is("6: no part of the rest", desk.bundles(1, 8), false);
    DUE.is("6: with more on the left", desk.bundles(17, 40), true);
    DUE.is("6: with less on the left", desk.bundles(0, 6), false);
    DUE.is("6: right within left", desk.bundles(5, 4), true);
    DUE.is("6: right within left, nothing", desk.bundles(0, 0), true);
    DUE.is("6: both are all", desk.bundles(7, 56), true);
    DUE.is("6: nothing parts a ring", Desks.ring().bundles(0, 1), false);
    for (int bad : NO_SETS) {
      DUE.is("6: bundles(" + bad + ", 0)", desk.bundles(bad, 0), false);
      DUE.is("6: bundles(63, " + bad + ")", desk.bundles(63, bad), false);
    }
  }

  private static void needs() {
    DependencyDesk desk = Desks.singles(1, 2, 2, 4, 4, 8, 2, 8);
    DUE.is("7: needs(1, 2)", desk.needs(1, 2), 1);
    DUE.is("7: needs(1, 4)", desk.needs(1, 4), 2);
    DUE.is("7: needs(1, 8), not by the long way", desk.needs(1, 8), 2);
    DUE.is("7: needs(1, 12)", desk.needs(1, 12), 3);
    DUE.is("7: needs(1, 1)", desk.needs(1, 1), 0);
    DUE.is("7: needs(0, 0)", desk.needs(0, 0), 0);
    DUE.is("7: needs(1, 16)", desk.needs(1, 16), -3);
    for (int bad : NO_SETS) {
      DUE.is("7: needs(" + bad + ", 0)", desk.needs(bad, 0), -1);
      DUE.is("7: needs(1, " + bad + ")", desk.needs(1, bad), -1);
    }
    DUE.is("7: needs(1, 8) is unchanged", desk.needs(1, 8), 2);
    DependencyDesk mixed = Desks.singles(8, 2, 32, 16);
    mixed.give(1, 6, 1);
    DUE.is("7: a single and a bundled one", mixed.needs(1, 2), 2);
    DUE.is("7: none for a part of the bundle", mixed.needs(1, 4), -3);
    DependencyDesk all = new DependencyDesk();
    for (int i = 0; i < 5; i++) {
      all.give(1 << i, 2 << i, 0);
    }
    for (int i = 0; i < 5; i++) {
      all.give(1 << i, 2 << i, 0);
    }
    DUE.is("7: ten given, half of them twice", all.needs(1, 32), 5);
    DependencyDesk ten = Desks.singles(3, 4, 5, 8, 9, 16, 17, 32, 33, 2, 48, 2, 24, 4, 12, 32, 6, 8, 63, 0);
    DUE.is("7: ten given, no short way", ten.needs(3, 63), 4);
  }

  private static void keys() {
    DUE.is("8: of a new object", new DependencyDesk().keys(), 1);
    DUE.is("8: nothing is a key", Desks.singles(0, 63).keys(), 1);
    DUE.is("8: each column is a key", Desks.ring().keys(), 6);
    DUE.is("8: two ways", Desks.singles(3, 60, 12, 51).keys(), 2);
    DUE.is("8: all pairs of five and none with the sixth",
        Desks.singles(3, 60, 5, 58, 9, 54, 17, 46, 6, 57, 10, 53, 18, 45, 12, 51, 20, 43, 24, 39).keys(), 10);
    DependencyDesk mixed = Desks.singles(8, 2);
    mixed.give(1, 6, 1);
    DUE.is("8: by way of a bundled one", mixed.keys(), 1);
  }

  private static void key() {
    DependencyDesk desk = Desks.singles(12, 51, 3, 60, 32, 31);
    DUE.is("9: key(0)", desk.key(0), 3);
    DUE.is("9: key(1)", desk.key(1), 12);
    DUE.is("9: key(2)", desk.key(2), 32);
    DUE.is("9: key(3)", desk.key(3), -3);
    DUE.is("9: key(-1)", desk.key(-1), -3);
    DUE.is("9: key(MIN)", desk.key(MIN), -3);
    DUE.is("9: key(MAX)", desk.key(MAX), -3);
    DUE.is("9: key(64)", desk.key(64), -3);
    DUE.is("9: of a new object", new DependencyDesk().key(0), 63);
    DUE.is("9: nothing is the key", Desks.singles(0, 63).key(0), 0);
    DUE.is("9: nothing is the only key", Desks.singles(0, 63).key(1), -3);
    DependencyDesk mixed = Desks.singles(8, 2);
    mixed.give(1, 6, 1);
    DUE.is("9: by way of a bundled one", mixed.key(0), 61);
  }

  private static void closed() {
    DUE.is("10: of a new object", new DependencyDesk().closed(), 64);
    DUE.is("10: all from nothing", Desks.singles(0, 63).closed(), 1);
    DUE.is("10: one column from another", Desks.singles(1, 2).closed(), 48);
    DUE.is("10: one column from nothing", Desks.singles(0, 1).closed(), 32);
    DependencyDesk bundled = new DependencyDesk();
    bundled.give(0, 7, 1);
    DUE.is("10: a bundled one alone", bundled.closed(), 64);
  }

  private static void corners() {
    DUE.is("11: of a new object", new DependencyDesk().corners(), 6);
    DUE.is("11: 63 is none", Desks.singles(0, 63).corners(), 0);
    DUE.is("11: a row of columns", Desks.singles(1, 2, 2, 4, 4, 8, 8, 16, 16, 32).corners(), 6);
    DUE.is("11: one column is a key of all", Desks.singles(1, 62).corners(), 6);
    DUE.is("11: each column is a key", Desks.singles(1, 62, 2, 61, 4, 59, 8, 55, 16, 47, 32, 31).corners(), 1);
    // Closed are those with none, one or all of columns 0 to 2: corners are 57, 58, 60, 31, 47, 55.
    DUE.is("11: each two of three reach the third", Desks.singles(3, 4, 5, 2, 6, 1).corners(), 6);
  }

  private static void stems() {
    DUE.is("12: of a new object", new DependencyDesk().stems(), 0);
    DUE.is("12: all from nothing", Desks.singles(0, 63).stems(), 1);
    DUE.is("12: the same one twice", Desks.singles(1, 2, 1, 2).stems(), 1);
    DUE.is("12: one that follows from two", Desks.singles(1, 2, 2, 4, 1, 4).stems(), 2);
    DUE.is("12: one within another", Desks.singles(0, 60, 3, 4).stems(), 1);
    DUE.is("12: one upon another", Desks.singles(1, 2, 3, 4).stems(), 1);
    DUE.is("12: one beside another", Desks.singles(1, 2, 5, 8).stems(), 2);
    DependencyDesk bundled = new DependencyDesk();
    bundled.give(1, 6, 1);
    DUE.is("12: a bundled one alone", bundled.stems(), 0);
  }

  private static void stem() {
    DependencyDesk desk = Desks.singles(5, 8, 1, 2);
    DUE.is("13: stem(0)", desk.stem(0), 1);
    DUE.is("13: stem(1) has the closure of stem(0)", desk.stem(1), 7);
    DUE.is("13: stem(2)", desk.stem(2), -3);
    DUE.is("13: stem(-1)", desk.stem(-1), -3);
    DUE.is("13: stem(MIN)", desk.stem(MIN), -3);
    DUE.is("13: stem(MAX)", desk.stem(MAX), -3);
    DUE.is("13: of a new object", new DependencyDesk().stem(0), -3);
    DUE.is("13: nothing is a stem", Desks.singles(0, 63).stem(0), 0);
    DUE.is("13: no second stem", Desks.singles(0, 63).stem(1), -3);
  }

  private static void third() {
    DependencyDesk desk = Desks.singles(3, 4, 4, 2);
    DUE.is("14: each column is in a key", desk.third(7), true);
    DUE.is("14: two columns", desk.third(6), true);
    DUE.is("14: all columns", desk.third(63), true);
    DUE.is("14: a subset without dependencies", desk.third(35), true);
    DUE.is("14: nothing", desk.third(0), true);
    DUE.is("14: a row of three", Desks.singles(1, 2, 2, 4).third(7), false);
    DUE.is("14: a row of three, its ends", Desks.singles(1, 2, 2, 4).third(5), true);
    DUE.is("14: a part of a key reaches out", Desks.singles(3, 60, 1, 4).third(63), false);
    DependencyDesk wide = Desks.singles(8, 3, 3, 4, 4, 2);
    DUE.is("14: keys of S, not of all", wide.third(7), true);
    DUE.is("14: all columns with those", wide.third(63), false);
    DUE.is("14: one column from nothing", Desks.singles(0, 1).third(1), true);
    DUE.is("14: one column from nothing, and another", Desks.singles(0, 1).third(3), false);
    for (int bad : NO_SETS) {
      DUE.is("14: third(" + bad + ")", desk.third(bad), false);
    }
  }

  private static void boyce() {
    DependencyDesk desk = Desks.singles(3, 4, 4, 2);
    DUE.is("15: in third form alone", desk.boyce(7), false);
    DUE.is("15: two columns", desk.boyce(6), true);
    DUE.is("15: two columns and one more", desk.boyce(14), false);
    DUE.is("15: nothing", desk.boyce(0), true);
    DUE.is("15: all columns", desk.boyce(63), false);
    DUE.is("15: a subset without dependencies", desk.boyce(11), true);
    DUE.is("15: by way of a column outside", Desks.singles(1, 8, 8, 2).boyce(7), false);
    DUE.is("15: a key of all", Desks.singles(1, 62).boyce(63), true);
    DUE.is("15: of a new object", new DependencyDesk().boyce(63), true);
    DUE.is("15: one column from nothing, and another", Desks.singles(0, 1).boyce(3), false);
    for (int bad : NO_SETS) {
      DUE.is("15: boyce(" + bad + ")", desk.boyce(bad), false);
    }
  }

  private static void fourth() {
    DependencyDesk desk = new DependencyDesk();
    DUE.is("16: of a new object", desk.fourth(), true);
    desk.give(1, 6, 1);
    DUE.is("16: a bundled one", desk.fourth(), false);
    desk.give(1, 62, 0);
    DUE.is("16: a bundled one from a key", desk.fourth(), true);
    desk.give(2, 4, 0);
    DUE.is("16: a single one beside it", desk.fourth(), false);
    DependencyDesk trivial = new DependencyDesk();
    trivial.give(7, 3, 1);
    DUE.is("16: right within left", trivial.fourth(), true);
    trivial.give(7, 56, 1);
    DUE.is("16: both are all", trivial.fourth(), true);
    trivial.give(0, 32, 1);
    DUE.is("16: from nothing", trivial.fourth(), false);
    DUE.is("16: all from nothing", Desks.singles(0, 63).fourth(), true);
    DUE.is("16: with 5 columns on the left", Desks.singles(31, 32).fourth(), true);
    DUE.is("16: from nothing to one column, and every other one is a key",
        Desks.singles(0, 1, 2, 63, 4, 63, 8, 63, 16, 63, 32, 63).fourth(), false);
  }

  private static void part() {
    DependencyDesk desk = new DependencyDesk();
    for (int bad : NO_SETS) {
      DUE.is("17: part(" + bad + ")", desk.part(bad), -1);
    }
    DUE.is("17: lossless() after refused ones", desk.lossless(), false);
    for (int i = 1; i <= 4; i++) {
      DUE.is("17: part " + i, desk.part(i), i);
    }
    DUE.is("17: a fifth", desk.part(63), -2);
    DUE.is("17: a fifth with no set", desk.part(64), -1);
    DUE.is("17: a fifth with no set", desk.part(-1), -1);
    DUE.is("17: lossless() after a fifth", desk.lossless(), false);
  }

  private static void whole() {
    DependencyDesk desk = new DependencyDesk();
    desk.give(1, 2, 0);
    desk.row();
    Desks.parts(desk, 63, 1, 2, 4);
    DUE.is("18: lossless() before", desk.lossless(), true);
    DUE.is("18: preserves() before", desk.preserves(), true);
    desk.whole();
    DUE.is("18: lossless() after", desk.lossless(), false);
    DUE.is("18: preserves() after", desk.preserves(), false);
    DUE.is("18: part after", desk.part(8), 1);
    DUE.is("18: lossless() with that", desk.lossless(), false);
    desk.whole();
    desk.whole();
    DUE.is("18: part after two", desk.part(8), 1);
    DUE.is("18: the dependency stays", desk.closure(1), 3);
    DUE.is("18: the row stays", desk.row(), 1);
  }

  private static void lossless() {
    DependencyDesk desk = Desks.singles(1, 6);
    Desks.parts(desk, 7, 57);
    DUE.is("19: what they share reaches one of them", desk.lossless(), true);
    Desks.parts(desk, 57, 7);
    DUE.is("19: the same in the other order", desk.lossless(), true);
    Desks.parts(desk, 7, 56);
    DUE.is("19: they share nothing", desk.lossless(), false);
    Desks.parts(desk, 3, 5, 57);
    DUE.is("19: three parts", desk.lossless(), true);
    Desks.parts(desk, 3, 6, 57);
    DUE.is("19: three parts, of which one hangs loose", desk.lossless(), false);
    DependencyDesk line = Desks.singles(1, 2, 2, 4, 4, 8, 8, 48);
    Desks.parts(line, 3, 6, 12, 56);
    DUE.is("19: four parts in a line", line.lossless(), true);
    Desks.parts(line, 56, 12, 6, 3);
    DUE.is("19: four parts in a line, backwards", line.lossless(), true);
    Desks.parts(line, 3, 6, 56);
    DUE.is("19: a line with a gap", line.lossless(), false);
    DependencyDesk round = Desks.singles(3, 4, 12, 16, 20, 35);
    Desks.parts(round, 7, 28, 55, 63 & ~16);
    DUE.is("19: parts that overlap twice", round.lossless(), true);
    // Columns 0 and 1 reach column 2 by the third part, and only then does the first reach column 0.
    int[][] orders = {{62, 24, 5, 3}, {62, 5, 3, 24}, {3, 5, 62, 24}, {5, 62, 3, 24}, {24, 3, 62, 5}};
    for (int[] order : orders) {
      DependencyDesk late = Desks.singles(6, 1, 1, 4);
      Desks.parts(late, order);
      DUE.is("19: one step waits for another, from part " + order[0], late.lossless(), true);
    }
    DependencyDesk last = Desks.singles(48, 1, 7, 8);
    Desks.parts(last, 47, 49, 54, 53);
    DUE.is("19: the last parts come first", last.lossless(), true);
  }

  private static void losslessEdges() {
    DependencyDesk desk = Desks.singles(0, 32);
    DUE.is("19: no part", desk.lossless(), false);
    Desks.parts(desk, 31);
    DUE.is("19: a column is in no part, though always the same", desk.lossless(), false);
    Desks.parts(desk, 63);
    DUE.is("19: all in one part", desk.lossless(), true);
    Desks.parts(desk, 0, 63, 0, 0);
    DUE.is("19: parts of nothing beside it", desk.lossless(), true);
    Desks.parts(desk, 0);
    DUE.is("19: a part of nothing alone", desk.lossless(), false);
    Desks.parts(desk, 0, 0, 0, 0);
    DUE.is("19: parts of nothing alone", desk.lossless(), false);
    Desks.parts(desk, 31, 32);
    DUE.is("19: a column that is always the same by itself", desk.lossless(), true);
    DependencyDesk bundled = new DependencyDesk();
    bundled.give(1, 6, 1);
    Desks.parts(bundled, 7, 57);
    DUE.is("19: bundled ones do not count", bundled.lossless(), false);
    DependencyDesk mixed = Desks.singles(8, 2);
    mixed.give(1, 6, 1);
    Desks.parts(mixed, 3, 61);
    DUE.is("19: nor what follows by way of them", mixed.lossless(), false);
    mixed.give(1, 2, 0);
    DUE.is("19: the single one itself does", mixed.lossless(), true);
  }

  /** Cases, found by search, in which step upon step must wait for another in some orders of the parts. */
  private static void losslessByLongWays() {
    int[][][] cases = {
      {{23, 4, 17, 8, 26, 61, 38, 8, 62, 42, 11, 33}, {54, 51, 15, 61}},
      {{5, 13, 53, 36, 44, 14, 30, 43}, {43, 60, 31, 39}},
      {{63, 4, 63, 1, 34, 6, 3, 8, 40, 48, 29, 2}, {30, 45, 31, 51}},
      {{59, 8, 4, 3, 9, 43, 51, 4, 24, 56, 27, 49, 63, 4}, {52, 27, 46, 5}},
      {{2, 5, 61, 36, 63, 20, 37, 2, 17, 4, 22, 29, 31, 4, 43, 1}, {5, 49, 26, 47}},
    };
    for (int[][] one : cases) {
      for (int[] order : orders(one[1])) {
        DependencyDesk desk = Desks.singles(one[0]);
        Desks.parts(desk, order);
        DUE.is("19: a long way with " + Arrays.toString(order), desk.lossless(), true);
      }
    }
  }

  private static void preservesByLongWays() {
    int[][][] cases = {
      {{16, 15, 24, 16, 1, 11, 15, 12, 12, 32, 8, 16, 32, 59, 10, 4}, {20, 50, 33, 9}},
      {{32, 4, 1, 50, 17, 42, 6, 28, 18, 15, 18, 4}, {45, 35, 50, 22}},
      {{32, 2, 1, 32, 13, 23, 2, 9, 8, 2, 48, 32, 2, 26}, {52, 37, 13, 14}},
      {{1, 47, 4, 32, 34, 55, 61, 18, 16, 15, 8, 1, 51, 43}, {7, 44, 26, 50}},
    };
    for (int[][] one : cases) {
      for (int[] order : orders(one[1])) {
        DependencyDesk desk = Desks.singles(one[0]);
        Desks.parts(desk, order);
        DUE.is("20: a long way with " + Arrays.toString(order), desk.preserves(), true);
        desk.whole();
        for (int i = 0; i < 3; i++) {
          desk.part(order[i]);
        }
        DUE.is("20: without the part " + order[3], desk.preserves(), false);
      }
    }
  }

  private static List<int[]> orders(int[] parts) {
    List<int[]> found = new ArrayList<>();
    for (int i = 0; i < 256; i++) {
      int[] places = {i & 3, i >> 2 & 3, i >> 4 & 3, i >> 6};
      if (Arrays.stream(places).distinct().count() == 4) {
        found.add(Arrays.stream(places).map(place -> parts[place]).toArray());
      }
    }
    return found;
  }

  private static void preserves() {
    DependencyDesk desk = Desks.singles(1, 2, 2, 4, 4, 1);
    DUE.is("20: no part", desk.preserves(), false);
    Desks.parts(desk, 3, 6);
    DUE.is("20: each way round by the parts", desk.preserves(), true);
    Desks.parts(desk, 6, 3);
    DUE.is("20: the same in the other order", desk.preserves(), true);
    Desks.parts(desk, 3, 4);
    DUE.is("20: one is lost", desk.preserves(), false);
    Desks.parts(desk, 63);
    DUE.is("20: all in one part", desk.preserves(), true);
    Desks.parts(desk, 0);
    DUE.is("20: a part of nothing", desk.preserves(), false);
    DUE.is("20: of a new object", new DependencyDesk().preserves(), true);
    DUE.is("20: right within left, no part", Desks.singles(7, 3).preserves(), true);
    DependencyDesk bundled = new DependencyDesk();
    bundled.give(1, 6, 1);
    DUE.is("20: bundled ones do not count", bundled.preserves(), true);
    DependencyDesk mixed = Desks.singles(8, 2, 17, 2);
    mixed.give(1, 6, 1);
    Desks.parts(mixed, 10, 3);
    DUE.is("20: nor what follows by way of them", mixed.preserves(), false);
    Desks.parts(mixed, 10, 19);
    DUE.is("20: with a part for each", mixed.preserves(), true);
    DependencyDesk line = Desks.singles(1, 2, 2, 4, 4, 8, 1, 8);
    Desks.parts(line, 12, 6, 3);
    DUE.is("20: from part to part", line.preserves(), true);
    DependencyDesk empty = Desks.singles(0, 32);
    Desks.parts(empty, 32);
    DUE.is("20: from nothing", empty.preserves(), true);
    Desks.parts(empty, 31);
    DUE.is("20: from nothing, without its column", empty.preserves(), false);
  }

  private static void row() {
    DependencyDesk desk = new DependencyDesk();
    for (int i = 0; i < 6; i++) {
      DUE.is("21: row " + i, desk.row(), i);
    }
    desk.write(5, 5, 7);
    DUE.is("21: a seventh", desk.row(), -2);
    DUE.is("21: an eighth", desk.row(), -2);
    DUE.is("21: what stands after it", desk.write(5, 5, 7), 7);
    DUE.is("21: a row of 0s", desk.write(5, 4, 1), 0);
    desk.blank();
    for (int r = 0; r < 6; r++) {
      desk.row();
      for (int c = 0; c < 6; c++) {
        DUE.is("21: a new row after blank, " + r + ", " + c, desk.write(r, c, r + c + 1), 0);
      }
    }
  }

  private static void write() {
    DependencyDesk desk = new DependencyDesk();
    DUE.is("22: no row", desk.write(0, 0, 1), -1);
    desk.row();
    desk.row();
    for (int c = 0; c < 6; c++) {
      DUE.is("22: write(1, " + c + ", ..)", desk.write(1, c, 10 + c), 0);
    }
    for (int c = 0; c < 6; c++) {
      DUE.is("22: write(1, " + c + ", ..) again", desk.write(1, c, MIN + c), 10 + c);
      DUE.is("22: the other row", desk.write(0, c, MAX - c), 0);
    }
    DUE.is("22: the least number", desk.write(1, 0, MAX), MIN);
    DUE.is("22: the greatest number", desk.write(1, 0, 0), MAX);
    int[][] places = {{2, 0}, {-1, 0}, {MIN, 0}, {MAX, 0}, {0, 6}, {0, -1}, {1, MIN}, {1, MAX}, {6, 6}, {-1, 6}, {1, -6}};
    for (int[] place : places) {
      DUE.is("22: write(" + place[0] + ", " + place[1] + ", 3)", desk.write(place[0], place[1], 3), -1);
    }
    DUE.is("22: what stands after refused ones", desk.write(0, 0, 0), MAX);
    DUE.is("22: what stands after refused ones", desk.write(1, 0, 0), 0);
    DUE.is("22: no row was made", desk.row(), 2);
  }

  private static void blank() {
    DependencyDesk desk = Desks.singles(1, 2);
    desk.part(63);
    Desks.rows(desk, "123456", "654321");
    DUE.is("23: agreements() before", desk.agreements(), 1);
    desk.blank();
    DUE.is("23: agreements() after", desk.agreements(), 0);
    DUE.is("23: write after", desk.write(0, 0, 1), -1);
    DUE.is("23: keeps(0, 63) after", desk.keeps(0, 63), true);
    DUE.is("23: row() after", desk.row(), 0);
    DUE.is("23: the dependency stays", desk.closure(1), 3);
    DUE.is("23: the part stays", desk.part(1), 2);
  }

  private static void keeps() {
    DependencyDesk desk = new DependencyDesk();
    DUE.is("24: no row", desk.keeps(0, 63), true);
    Desks.rows(desk, "111111");
    DUE.is("24: one row", desk.keeps(0, 63), true);
    Desks.rows(desk, "112112", "212121");
    DUE.is("24: keeps(1, 2)", desk.keeps(1, 2), true);
    DUE.is("24: keeps(1, 4)", desk.keeps(1, 4), false);
    DUE.is("24: keeps(4, 1)", desk.keeps(4, 1), false);
    DUE.is("24: keeps(0, 10)", desk.keeps(0, 2), true);
    DUE.is("24: keeps(0, 1)", desk.keeps(0, 1), false);
    DUE.is("24: keeps(5, 63)", desk.keeps(5, 63), true);
    DUE.is("24: keeps(63, 63)", desk.keeps(63, 63), true);
    DUE.is("24: keeps(3, 3)", desk.keeps(3, 3), true);
    for (int bad : NO_SETS) {
      DUE.is("24: keeps(" + bad + ", 0)", desk.keeps(bad, 0), false);
      DUE.is("24: keeps(63, " + bad + ")", desk.keeps(63, bad), false);
    }
    DependencyDesk far = new DependencyDesk();
    far.row();
    far.row();
    far.write(0, 0, MIN);
    far.write(1, 0, MAX);
    DUE.is("24: the least and the greatest number differ", far.keeps(0, 1), false);
    far.write(1, 0, MIN);
    DUE.is("24: the least number twice", far.keeps(0, 1), true);
    DependencyDesk apart = new DependencyDesk();
    Desks.rows(apart, "000000", "111111");
    DUE.is("24: two rows that agree on nothing", apart.keeps(0, 1), false);
    DUE.is("24: two rows that agree on nothing, one column", apart.keeps(1, 63), true);
    DUE.is("24: with no set, though no row", new DependencyDesk().keeps(64, 0), false);
    DependencyDesk given = Desks.singles(0, 63);
    Desks.rows(given, "000000", "100000");
    DUE.is("24: the given ones do not count", given.keeps(0, 63), false);
  }

  private static void keepsBundled() {
    DependencyDesk desk = new DependencyDesk();
    DUE.is("25: no row", desk.keepsBundled(0, 1), true);
    Desks.rows(desk, "000000", "100000", "010000", "110000");
    DUE.is("25: all four", desk.keepsBundled(0, 1), true);
    DUE.is("25: all four, the rest", desk.keepsBundled(0, 62), true);
    desk.write(3, 5, 1);
    DUE.is("25: one column in the way", desk.keepsBundled(0, 1), false);
    DUE.is("25: that column on the left", desk.keepsBundled(32, 1), false);
    DUE.is("25: both columns on the right", desk.keepsBundled(0, 35), true);
    DUE.is("25: right within left", desk.keepsBundled(3, 2), true);
    DUE.is("25: both are all", desk.keepsBundled(3, 60), true);
    String[][] threes = {
      {"000000", "100000", "010000"}, {"100000", "000000", "010000"}, {"100000", "010000", "000000"},
      {"110000", "100000", "010000"}, {"100000", "110000", "010000"}, {"010000", "110000", "100000"},
    };
    for (String[] three : threes) {
      DependencyDesk lacking = new DependencyDesk();
      Desks.rows(lacking, three);
      DUE.is("25: three of four from " + three[0], lacking.keepsBundled(0, 1), false);
      DUE.is("25: three of four from " + three[0] + ", more on the left", lacking.keepsBundled(2, 1), true);
    }
    DependencyDesk overlap = new DependencyDesk();
    Desks.rows(overlap, "500000", "510000", "501000", "511000");
    DUE.is("25: right has the left", overlap.keepsBundled(1, 3), true);
    for (int bad : NO_SETS) {
      DUE.is("25: keepsBundled(" + bad + ", 0)", desk.keepsBundled(bad, 0), false);
      DUE.is("25: keepsBundled(63, " + bad + ")", desk.keepsBundled(63, bad), false);
    }
    DUE.is("25: with no set, though no row", new DependencyDesk().keepsBundled(0, 64), false);
  }

  private static void discovered() {
    DependencyDesk desk = new DependencyDesk();
    DUE.is("26: no row", desk.discovered(), 6);
    Desks.rows(desk, "000000");
    DUE.is("26: one row", desk.discovered(), 6);
    Desks.rows(desk, "000000");
    DUE.is("26: the same row twice", desk.discovered(), 6);
    desk.write(1, 0, 1);
    DUE.is("26: one column differs", desk.discovered(), 5);
    desk.write(1, 1, 1);
    DUE.is("26: two columns differ", desk.discovered(), 6);
    // Columns 0 and 1 together reach 2, but neither alone; likewise each two of them the third.
    DependencyDesk three = new DependencyDesk();
    Desks.rows(three, "000000", "011000", "101000", "110000");
    DUE.is("26: each two of three", three.discovered(), 6);
    DependencyDesk each = new DependencyDesk();
    Desks.rows(each, "000000", "111111");
    DUE.is("26: each from each", each.discovered(), 30);
  }

  private static void agreements() {
    DependencyDesk desk = new DependencyDesk();
    DUE.is("27: no row", desk.agreements(), 0);
    Desks.rows(desk, "000000");
    DUE.is("27: one row", desk.agreements(), 0);
    Desks.rows(desk, "111111");
    DUE.is("27: two rows that agree on nothing", desk.agreements(), 1);
    Desks.rows(desk, "222222");
    DUE.is("27: three rows that agree on nothing", desk.agreements(), 1);
    Desks.rows(desk, "022222");
    DUE.is("27: a fourth row", desk.agreements(), 3);
    DependencyDesk six = new DependencyDesk();
    Desks.rows(six, "000000", "011111", "102222", "220333", "333044", "444405");
    DUE.is("27: six rows", six.agreements(), 6);
    DependencyDesk most = new DependencyDesk();
    Desks.rows(most, "000001", "000110", "011010", "101020", "110200", "222003");
    DUE.is("27: six rows, many sets", most.agreements(), countAgreements(
        "000001", "000110", "011010", "101020", "110200", "222003"));
  }

  private static int countAgreements(String... digits) {
    Set<Integer> found = new HashSet<>();
    for (int r = 0; r < digits.length; r++) {
      for (int s = r + 1; s < digits.length; s++) {
        int agreed = 0;
        for (int c = 0; c < 6; c++) {
          agreed |= digits[r].charAt(c) == digits[s].charAt(c) ? 1 << c : 0;
        }
        found.add(agreed);
      }
    }
    return found.size();
  }

  private static void exact() {
    DependencyDesk desk = new DependencyDesk();
    DUE.is("28: no row, none given", desk.exact(), false);
    desk.give(0, 63, 0);
    DUE.is("28: no row, all from nothing", desk.exact(), true);
    Desks.rows(desk, "123456", "123456");
    DUE.is("28: the same row twice, all from nothing", desk.exact(), true);
    desk.write(1, 5, 0);
    DUE.is("28: a given one is broken", desk.exact(), false);
    desk.take();
    desk.give(0, 31, 0);
    DUE.is("28: just the given one", desk.exact(), true);
    desk.take();
    desk.give(0, 30, 0);
    DUE.is("28: more than the given one", desk.exact(), false);
    DependencyDesk line = Desks.singles(0, 56, 1, 2, 2, 4);
    Desks.rows(line, "000000", "110000", "220000", "331000");
    DUE.is("28: a line that is kept backwards, too", line.exact(), false);
    DependencyDesk exact = Desks.singles(0, 56, 1, 2, 2, 4);
    Desks.rows(exact, "000000", "100000", "210000", "321000");
    DUE.is("28: a line", exact.exact(), true);
    exact.give(0, 1, 1);
    DUE.is("28: a line, and a bundled one that makes more follow", exact.exact(), false);
    exact.take();
    exact.give(1, 2, 1);
    DUE.is("28: a line, and a bundled one that follows", exact.exact(), true);
  }

  private static void exactFromNothing() {
    DependencyDesk desk = Desks.singles(2, 1, 4, 1, 8, 1, 16, 1, 32, 1);
    Desks.rows(desk, "000000", "010000", "001000", "000100", "000010", "000001");
    DUE.is("28: nothing reaches more in the table, and only nothing", desk.exact(), false);
    desk.give(0, 1, 0);
    DUE.is("28: nothing reaches the same", desk.exact(), true);
  }

  /** Every call that asks about the given ones looks at the tenth as well, and at no eleventh. */
  private static void tenth() {
    DependencyDesk desk = new DependencyDesk();
    for (int i = 0; i < 9; i++) {
      desk.give(63, 63, i % 2);
    }
    DUE.is("2: the tenth", desk.give(0, 63, 0), 9);
    DUE.is("4: with the tenth", desk.closure(0), 63);
    DUE.is("5: with the tenth", desk.follows(0, 63), true);
    DUE.is("6: with the tenth", desk.bundles(0, 1), true);
    DUE.is("7: with the tenth", desk.needs(0, 63), 1);
    DUE.is("8: with the tenth", desk.keys(), 1);
    DUE.is("9: with the tenth", desk.key(0), 0);
    DUE.is("10: with the tenth", desk.closed(), 1);
    DUE.is("11: with the tenth", desk.corners(), 0);
    DUE.is("12: with the tenth", desk.stems(), 1);
    DUE.is("13: with the tenth", desk.stem(0), 0);
    DUE.is("16: with the tenth", desk.fourth(), true);
    DUE.is("20: with the tenth, no part", desk.preserves(), false);
    Desks.parts(desk, 31, 32);
    DUE.is("19: with the tenth", desk.lossless(), true);
    DUE.is("20: with the tenth", desk.preserves(), true);
    DUE.is("28: with the tenth", desk.exact(), true);
    desk.take();
    desk.give(1, 2, 0);
    DUE.is("14: with another tenth", desk.third(7), false);
    DUE.is("15: with another tenth", desk.boyce(7), false);
    DUE.is("13: with another tenth", desk.stem(0), 1);
    desk.take();
    DUE.is("4: without the tenth", desk.closure(1), 1);
    DUE.is("8: without the tenth", desk.key(0), 63);
    DUE.is("14: without the tenth", desk.third(7), true);
    DUE.is("15: without the tenth", desk.boyce(7), true);
    DUE.is("19: without the tenth", desk.lossless(), false);
    DUE.is("20: without the tenth", desk.preserves(), true);
  }

  private static void orderAndLimits() {
    DependencyDesk desk = new DependencyDesk();
    Desks.rows(desk, "123456", "123456");
    DUE.is("29: the same row twice", desk.agreements(), 1);
    Desks.rows(desk, "123456");
    DUE.is("29: the same row three times", desk.agreements(), 1);
    Desks.rows(desk, "123450");
    DUE.is("29: another row", desk.agreements(), 2);
    DependencyDesk apart = new DependencyDesk();
    Desks.rows(apart, "123456", "000000", "123456");
    DUE.is("29: the same row at two places apart", apart.agreements(), 2);
    DependencyDesk alone = new DependencyDesk();
    Desks.rows(alone, "123456");
    DUE.is("29: a row is not two", alone.agreements(), 0);
  }
}
