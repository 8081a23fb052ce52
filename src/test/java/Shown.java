import java.util.ArrayList;
import java.util.List;

/** What an object shows of its state. Setting up, asking twice and drawing out stay below 512 calls. */
final class Shown {
  private final DependencyDesk desk;
  private final List<Long> answers = new ArrayList<>();

  private Shown(DependencyDesk desk) {
    this.desk = desk;
  }

  /** The answers of calls that change nothing. */
  static List<Long> asked(DependencyDesk desk) {
    Shown shown = new Shown(desk);
    shown.askGiven();
    shown.askParts();
    shown.askTable();
    return shown.answers;
  }

  /** The answers of calls that take the state apart until nothing of it is left unseen. */
  static List<Long> drawnOut(DependencyDesk desk) {
    Shown shown = new Shown(desk);
    shown.drawRows();
    shown.drawParts();
    shown.drawGiven();
    return shown.answers;
  }

  private void add(long answer) {
    answers.add(answer);
  }

  private void add(boolean answer) {
    add(answer ? 1L : 0L);
  }

  private void askGiven() {
    for (int x = 0; x < 64; x++) {
      add(desk.closure(x));
    }
    for (int x : new int[] {0, 1, 4, 63}) {
      for (int y : new int[] {1, 24, 32, 51}) {
        add(desk.bundles(x, y));
      }
    }
    add(desk.follows(1, 6));
    add(desk.needs(0, 47));
    add(desk.keys());
    add(desk.key(0));
    add(desk.key(1));
    add(desk.closed());
    add(desk.corners());
    add(desk.stems());
    add(desk.stem(0));
    add(desk.stem(1));
    add(desk.third(63));
    add(desk.third(7));
    add(desk.boyce(63));
    add(desk.boyce(7));
    add(desk.fourth());
  }

  private void askParts() {
    add(desk.lossless());
    add(desk.preserves());
  }

  private void askTable() {
    for (int x : new int[] {0, 1, 18}) {
      for (int y : new int[] {1, 4, 63}) {
        add(desk.keeps(x, y));
        add(desk.keepsBundled(x, y));
      }
    }
    add(desk.discovered());
    add(desk.agreements());
    add(desk.exact());
  }

  private void drawRows() {
    for (int r = 0; r < 6; r++) {
      for (int c = 0; c < 6; c++) {
        add(desk.write(r, c, 0));
      }
    }
    for (int i = 0; i < 7; i++) {
      add(desk.row());
    }
  }

  /** A full part would hide the others, so the empty one fills the list up. */
  private void drawParts() {
    for (int i = 0; i < 5; i++) {
      add(desk.part(0));
    }
    askParts();
  }

  private void drawGiven() {
    for (int i = 0; i < 11; i++) {
      add(desk.closed());
      add(desk.closure(4));
      add(desk.bundles(4, 33));
      add(desk.fourth());
      add(desk.take());
    }
  }
}
