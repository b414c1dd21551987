/** Promises 1 to 4: a new object, elder, of, gone. */
final class EldersTest {
  public static void main(String[] args) {
    promise1NewObject();
    promise2Elder();
    promise3Of();
    promise4Gone();
    Due.end("EldersTest");
  }

  private static void promise1NewObject() {
    ElderChest x = new ElderChest();
    long[] looks = {0, 0, 0, -1, 0, 0, 0};
    for (int what = 0; what < looks.length; what++) {
      Due.due("1: look(" + what + ") of a new object", x.look(what), looks[what]);
    }
    Due.due("1: status(-1) of a new object", x.status(-1), 0);
    Due.due("1: tear() of a new object", x.tear(), 0);
    Due.due("1: wipe() of a new object", x.wipe(), 0);
    Due.due("1: had(0) of a new object", x.had(0), 0);
    Due.due("1: undo() of a new object", x.undo(), Due.NONE);
    for (int s = 0; s < 4; s++) {
      Due.due("1: write to sheet " + s + " of a new object", x.write(s, 0, 1), Due.MISSING);
    }
    ElderChest other = Due.withElders(1, 2);
    Due.due("1: an object knows nothing of another one", new ElderChest().look(0), 0);
    Due.due("1: nor does the other one lose", other.look(0), 2);
  }

  private static void promise2Elder() {
    ElderChest x = new ElderChest();
    Due.due("2: elder(-1)", x.elder(-1), Due.BEYOND);
    Due.due("2: elder(10)", x.elder(10), Due.BEYOND);
    Due.due("2: elder(MIN)", x.elder(Integer.MIN_VALUE), Due.BEYOND);
    Due.due("2: elder(MAX)", x.elder(Integer.MAX_VALUE), Due.BEYOND);
    Due.due("2: none came by wrong weights", x.look(0), 0);
    for (int i = 0; i < 10; i++) {
      Due.due("2: elder(" + i + ")", x.elder(i), i);
    }
    Due.due("2: an eleventh", x.elder(0), Due.FULL);
    Due.due("2: BEYOND ahead of FULL", x.elder(10), Due.BEYOND);
    Due.due("2: ten are there", x.look(0), 10);
    for (int i = 0; i < 10; i++) {
      Due.due("2: weight of " + i, x.of(i, 0), i);
    }
    Due.due("2: findings", x.status(-1), 6);
    Due.due("2: FULL once", x.status(1), 1);
    x.gone(3, true);
    Due.due("2: one who is GONE makes no room", x.elder(0), Due.FULL);
  }

  private static void promise3Of() {
    ElderChest x = Due.withElders(7, 0, 9);
    Due.giveKeys(x, 1, 0, 5, 23);
    x.gone(2, true);
    x.lend(1, 0, 5);
    x.lend(1, 0, 5);
    x.lend(1, 2, 23);
    long[][] due = {{7, 0, 0, 0, 2}, {0, 0, 1 | 1 << 5 | 1 << 23, 3, 0}, {9, 1, 0, 0, 1}};
    for (int elder = 0; elder < 3; elder++) {
      for (int what = 0; what < 5; what++) {
        Due.due("3: of(" + elder + ", " + what + ")", x.of(elder, what), due[elder][what]);
      }
    }
    int[][] wrong = {{-1, 0}, {3, 0}, {0, -1}, {0, 5}, {Integer.MAX_VALUE, 2},
        {Integer.MIN_VALUE, 2}, {1, Integer.MIN_VALUE}, {1, Integer.MAX_VALUE}, {10, 0}};
    for (int[] pair : wrong) {
      Due.due("3: of(" + pair[0] + ", " + pair[1] + ")", x.of(pair[0], pair[1]), Due.BEYOND);
    }
    Due.due("3: each counted", x.status(0), wrong.length);
  }

  private static void promise4Gone() {
    ElderChest x = Due.withElders(1, 2, 3);
    Due.due("4: gone(1, false) at first", x.gone(1, false), 0);
    Due.due("4: gone(1, true)", x.gone(1, true), 1);
    Due.due("4: gone(1, true) again", x.gone(1, true), 0);
    Due.due("4: ALL", x.look(1), 2);
    Due.due("4: ELDERS", x.look(0), 3);
    Due.due("4: of(1, 1)", x.of(1, 1), 1);
    Due.due("4: of(0, 1)", x.of(0, 1), 0);
    Due.due("4: gone(1, false)", x.gone(1, false), 1);
    Due.due("4: gone(1, false) again", x.gone(1, false), 0);
    Due.due("4: ALL are all again", x.look(1), 3);
    Due.due("4: gone(3, true)", x.gone(3, true), Due.BEYOND);
    Due.due("4: gone(-1, false)", x.gone(-1, false), Due.BEYOND);
    Due.due("4: gone(32, true)", x.gone(32, true), Due.BEYOND);
    x.elder(0);
    Due.due("4: a new ELDER isn't GONE", x.of(3, 1), 0);
    goneCountsAsNotTold();
  }

  private static void goneCountsAsNotTold() {
    ElderChest x = Due.withElders(5, 5);
    Due.read(x, "may weigh 5");
    x.lock(3, false);
    x.box(0, 4);
    x.key(1, 3, true);
    x.gone(1, true);
    Due.due("4: may of one GONE", x.may(0, 2), 0);
    Due.due("4: may with one GONE", x.may(0, 3), 1);
    Due.due("4: opens of one GONE", x.opens(0, 2), 0);
    Due.due("4: had of one GONE", x.had(3), 0);
    Due.due("4: round of one GONE", x.round(1, 2), 0);
    Due.due("4: need of one GONE", x.need(0, 2), 1 << 3);
    x.gone(1, false);
    Due.due("4: may of one who is back", x.may(0, 2), 1);
    Due.due("4: had of one who is back", x.had(3), 1 << 3 | 1 << 4);
  }
}
