import java.util.ArrayList;
import java.util.List;

/** What the tests of boundary cases share: refused calls, ends of what is taken, and chests. */
final class Bounds {
  /** Makes an object what a test needs; the same each time. */
  interface Making {
    void make(ElderChest x);
  }

  interface Act {
    long on(ElderChest x);
  }

  interface ActWith {
    long on(ElderChest x, int number);
  }

  private Bounds() {}

  static ElderChest made(Making making) {
    ElderChest x = new ElderChest();
    making.make(x);
    return x;
  }

  /** A call answers a finding, which counts once, and changes nothing else. */
  static void refused(String call, long finding, Making making, Act act) {
    answersAndLeaves(call, finding, making, act);
    ElderChest asked = made(making);
    act.on(asked);
    ElderChest other = made(making);
    for (int which = -1; which < 7; which++) {
      int more = which == -1 || which == Due.BEYOND - finding ? 1 : 0;
      Due.due(call + ", then status(" + which + ")", asked.status(which),
          other.status(which) + more);
    }
  }

  /** A call has an answer, and leaves everything but status() as it was. */
  static void answersAndLeaves(String call, long answer, Making making, Act act) {
    ElderChest asked = made(making);
    Due.due(call, act.on(asked), answer);
    List<String> is = portrait(asked);
    List<String> was = portrait(made(making));
    Due.due(call + ", as many answers then", is.size(), was.size());
    for (int i = 0; i < Math.min(is.size(), was.size()); i++) {
      if (!is.get(i).equals(was.get(i))) {
        Due.due(call + " changes " + was.get(i) + " to " + is.get(i), false);
      }
    }
  }

  /** The lowest and the highest number are taken; those beside them, and the ends of int, are BEYOND. */
  static void range(String call, int lowest, int highest, Making making, ActWith act) {
    for (int number : new int[] {lowest, highest}) {
      if (lowest <= highest) {
        Due.due(call + " takes " + number, act.on(made(making), number) != Due.BEYOND);
      }
    }
    int above = Math.max(highest + 1, lowest);
    int[] wrong = {lowest - 1, above, Integer.MIN_VALUE, Integer.MAX_VALUE, above + 32, above + 64};
    for (int number : wrong) {
      refused(call + " with " + number, Due.BEYOND, making, x -> act.on(x, number));
    }
  }

  /** All that the public face tells of an object, which is of no use behind that. */
  private static List<String> portrait(ElderChest x) {
    List<String> told = new ArrayList<>();
    tellChest(x, told);
    for (int s = 0; s < 4; s++) {
      tellSheet(x, s, told);
    }
    tellTape(x, told);
    told.add("undo() " + x.undo());
    tellChest(x, told);
    return told;
  }

  private static void tellChest(ElderChest x, List<String> told) {
    for (int what = 0; what < 7; what++) {
      told.add("look(" + what + ") " + x.look(what));
    }
    int elders = x.look(0);
    for (int elder = 0; elder < elders; elder++) {
      for (int what = 0; what < 5; what++) {
        told.add("of(" + elder + ", " + what + ") " + x.of(elder, what));
      }
    }
    tellTexts(x, (1 << elders) - 1, told);
    int hangings = x.look(4);
    for (int h = 0; h < hangings; h++) {
      told.add("hanging(" + h + ", 4) " + x.hanging(h, 4));
    }
    // The rest of the oldest and of the latest ones: an object has 512 calls.
    for (int h = 0; h < hangings; h += h == 5 && hangings > 10 ? hangings - 10 : 1) {
      for (int what = 0; what < 4; what++) {
        told.add("hanging(" + h + ", " + what + ") " + x.hanging(h, what));
      }
      told.add("could(" + h + ") " + x.could(h));
    }
    told.add("had(all) " + x.had((1 << elders) - 1));
  }

  private static void tellTexts(ElderChest x, int all, List<String> told) {
    for (int text = 0; text < x.look(2); text++) {
      for (int set : new int[] {0, all & 1, all & 6, all}) {
        told.add("may(" + text + ", " + set + ") " + x.may(text, set));
      }
    }
    told.add("least(0) " + x.least(0));
  }

  private static void tellSheet(ElderChest x, int s, List<String> told) {
    for (int i = 0; i < 6; i++) {
      told.add("write(" + s + ", " + i + ", 0) " + x.write(s, i, 0));
    }
    told.add("write(" + s + ", 39, -1) " + x.write(s, 39, -1));
    x.write(s, 0, 0x7777777777777777L);
    told.add("write(" + s + ", 0, 0), its bits " + x.write(s, 0, 0));
  }

  private static void tellTape(ElderChest x, List<String> told) {
    int text = x.text();
    told.add("text() " + text);
    told.add("may(text(), 0) " + x.may(text, 0));
    told.add("may(text(), 1) " + x.may(text, 1));
    told.add("wipe() " + x.wipe());
  }

  // ---- chests

  /**
   * Some of everything: ELDERS with WEIGHTS 1, 2, 3, 4, the second one GONE; TEXTS 0 and 1, of which
   * 1 is THE TEXT; HANGINGS 0 LOCK, 1 OLD, 2 CHAIN, 3 ROW, 4 BOX; RINGS; a KEY that was lent; sheets
   * of 8, 16 and 64 bits, the last one MISSING; bytes on THE TAPE, and an image of less than that.
   */
  static void some(ElderChest x) {
    for (int weight = 1; weight <= 4; weight++) {
      x.elder(weight);
    }
    Due.read(x, "may weigh 5");
    x.lock(7, false);
    x.lock(23, true);
    x.key(0, 7, true);
    x.key(1, 9, true);
    x.image();
    Due.read(x, "may least 2 of everyone");
    x.use(1);
    x.chain(0, 1, false);
    x.chain(2, 0, true);
    x.box(3, 11);
    x.key(0, 23, true);
    x.key(2, 0, true);
    x.lend(0, 2, 7);
    x.gone(1, true);
    int[] bits = {8, 16, 64};
    for (int s = 0; s < 3; s++) {
      x.sheet(s, bits[s], 3);
      for (int i = 0; i < 3; i++) {
        x.write(s, i, 10 * s + i + 1);
      }
    }
    Due.feed(x, "may weigh 1");
  }

  static void nothing(ElderChest x) {}

  /** Ten ELDERS. */
  static void ten(ElderChest x) {
    for (int i = 0; i < 10; i++) {
      x.elder(i);
    }
  }

  static void someAndTenElders(ElderChest x) {
    some(x);
    for (int i = 4; i < 10; i++) {
      x.elder(9);
    }
  }

  static void someAndFortyHangings(ElderChest x) {
    some(x);
    for (int i = 5; i < 40; i++) {
      x.lock(i % 24, false);
    }
  }

  static void someAndEightTexts(ElderChest x) {
    some(x);
    for (int i = 2; i < 8; i++) {
      Due.read(x, "may weigh " + i);
    }
    Due.feed(x, "may weigh 1");
  }

  static void someAndTwentyLends(ElderChest x) {
    some(x);
    for (int i = 1; i < 20; i++) {
      x.lend(0, 1 + i % 3, 7);
    }
  }

  /** ELDERS of no WEIGHT and a TEXT. */
  static void eldersAndText(ElderChest x, int elders, String text) {
    for (int i = 0; i < elders; i++) {
      x.elder(0);
    }
    Due.read(x, text);
  }

  static ElderChest withText(int elders, String text) {
    return made(x -> eldersAndText(x, elders, text));
  }
}
