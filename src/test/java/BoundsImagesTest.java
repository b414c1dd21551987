import java.util.Arrays;

/** Promises 40 to 44 at their bounds: images, what is looked at, findings. */
final class BoundsImagesTest {
  public static void main(String[] args) {
    Due.runAll(BoundsImagesTest.class);
  }

  // ---- 40: "All that sections 1 and 2 tell (THE TAPE not) is kept: 1."

  static void promise40Answer() {
    Due.due("40: of a new object", new ElderChest().image(), 1);
    ElderChest x = Bounds.made(Bounds::some);
    Due.due("40: once more", x.image(), 1);
    Due.due("40: and again", x.image(), 1);
    Due.due("40: no finding", x.status(-1), 0);
  }

  static void promise40EmptyAndFull() {
    ElderChest x = new ElderChest();
    x.image();
    fill(x);
    Due.due("40: back to nothing", x.undo(), 0);
    long[] none = {0, 0, 0, -1, 0, 0, 0};
    for (int what = 0; what < 7; what++) {
      Due.due("40: look(" + what + ")", x.look(what), none[what]);
    }
    fill(x);
    x.image();
    Due.due("40: back to all", x.undo(), 40);
    long[] all = {10, 9, 8, 7, 40, 20, 0};
    for (int what = 0; what < 7; what++) {
      Due.due("40: look(" + what + ") of all", x.look(what), all[what]);
    }
    Due.due("40: FULL, ELDERS", x.elder(0), Due.FULL);
    Due.due("40: FULL, HANGINGS", x.lock(0, false), Due.FULL);
    Due.due("40: FULL, lent", x.lend(0, 1, 0), Due.FULL);
    Due.due("40: FULL, TEXTS", Due.read(x, "may weigh 0"), Due.FULL);
  }

  private static void fill(ElderChest x) {
    Bounds.ten(x);
    for (int i = 0; i < 40; i++) {
      x.lock(i % 24, i % 2 == 0);
    }
    for (int i = 0; i < 8; i++) {
      Due.read(x, "may weigh " + i);
    }
    x.use(7);
    x.key(0, 0, true);
    for (int i = 0; i < 20; i++) {
      x.lend(0, 1, 0);
    }
    x.gone(9, true);
  }

  static void promise40LatestTakesThePlace() {
    ElderChest x = new ElderChest();
    for (int i = 0; i < 40; i++) {
      x.lock(0, false);
      x.image();
    }
    Due.due("40: the latest", x.undo(), 40);
    ElderChest y = new ElderChest();
    y.lock(0, false);
    y.image();
    y.lock(0, false);
    y.undo();
    y.image();
    Due.due("40: what undo() left is kept", y.undo(), 1);
  }

  /** Each of what sections 1 and 2 tell, changed alone. */
  static void promise40Kept() {
    ElderChest x = Bounds.made(Bounds::some);
    x.image();
    x.elder(9);
    Due.due("40: an ELDER", backOf(x).look(0), 4);
    x.gone(0, true);
    Due.due("40: one GONE", backOf(x).of(0, 1), 0);
    x.gone(1, false);
    Due.due("40: one back", backOf(x).of(1, 1), 1);
    Due.read(x, "may weigh 0");
    Due.due("40: a TEXT", backOf(x).look(2), 2);
    x.use(0);
    Due.due("40: THE TEXT", backOf(x).look(3), 1);
    x.lock(0, false);
    Due.due("40: a HANGING", backOf(x).look(4), 5);
    x.key(3, 20, true);
    Due.due("40: a KEY that came", backOf(x).of(3, 2), 0);
    x.key(0, 7, false);
    Due.due("40: a KEY that went", backOf(x).of(0, 2), 1 << 7 | 1 << 23);
    x.lend(0, 2, 23);
    Due.due("40: how often KEYS were lent", backOf(x).look(5), 1);
    Due.due("40: and to it", x.of(2, 4), 1);
    x.key(0, 20, true);
    x.lend(0, 3, 20);
    int lock = backOf(x).lock(20, false);
    Due.due("40: which KEYS were lent", x.could(lock), 0);
    Due.due("40: with the KEY that was lent ahead of it", x.could(0), 5);
  }

  private static ElderChest backOf(ElderChest x) {
    Due.due("41: undo()", x.undo(), 5);
    return x;
  }

  static void promise40NotKept() {
    ElderChest x = Bounds.made(Bounds::some);
    x.image();
    Due.feed(x, "2");
    x.write(0, 0, 99);
    x.sheet(1, 0, 0);
    x.sheet(3, 16, 1);
    x.elder(-1);
    x.undo();
    Due.due("40: THE TAPE stays", x.look(6), 12);
    Due.due("40: a number stays", x.write(0, 0, 0), 99);
    Due.due("40: MISSING stays", x.write(1, 0, 0), Due.MISSING);
    Due.due("40: a sheet stays", x.write(3, 0, 0), 0);
    Due.due("40: findings stay", x.status(0), 1);
    x.wipe();
    x.undo();
    Due.due("40: THE TAPE stays empty", x.look(6), 0);
  }

  // ---- 41: "It becomes what was kept latest (which stays): how many HANGINGS there are. NONE: nothing
  // is kept."

  static void promise41None() {
    Bounds.refused("41: nothing is kept", Due.NONE, Bounds::nothing, ElderChest::undo);
    Bounds.refused("41: torn", Due.NONE, x -> {
      Bounds.some(x);
      x.tear();
    }, ElderChest::undo);
  }

  static void promise41Stays() {
    ElderChest x = Bounds.made(Bounds::some);
    for (int i = 0; i < 20; i++) {
      Due.due("41: again and again", x.undo(), 2);
      x.lock(i, false);
      x.elder(0);
      x.key(0, i, i % 2 == 0);
    }
    Due.due("41: at last", x.undo(), 2);
    Due.due("41: the RING", x.of(0, 2), 1 << 7);
    Due.due("41: ELDERS", x.look(0), 4);
    Due.due("41: it wasn't torn", x.tear(), 1);
  }

  static void promise41HowMany() {
    for (int many : new int[] {0, 1, 39, 40}) {
      ElderChest x = new ElderChest();
      for (int i = 0; i < many; i++) {
        x.lock(0, false);
      }
      x.image();
      x.lock(0, false);
      Due.due("41: HANGINGS", x.undo(), many);
      Due.due("41: a HANGING then", x.lock(0, false), many == 40 ? Due.FULL : many);
    }
  }

  /** What takes the place of something undone has nothing of it. */
  static void promise41WhatComesThen() {
    ElderChest x = Bounds.made(Bounds::some);
    x.elder(9);
    Due.giveKeys(x, 4, 7, 8);
    x.lend(0, 4, 7);
    x.gone(4, true);
    x.undo();
    Due.due("41: ELDERS", x.look(0), 4);
    Due.due("41: another ELDER", x.elder(5), 4);
    long[] due = {5, 0, 0, 0, 0};
    for (int what = 0; what < 5; what++) {
      Due.due("41: of(4, " + what + ")", x.of(4, what), due[what]);
    }
    Due.due("41: KEYS were lent", x.look(5), 0);
    Due.due("41: another HANGING", x.lock(3, true), 2);
    Due.due("41: its KEY", x.hanging(2, 1), 3);
    Due.due("41: what it is of", x.hanging(2, 2), Due.KIND);
    Due.due("41: nobody could", x.could(2), 0);
    Due.due("41: another TEXT", Due.read(x, "may weigh 99"), 1);
    Due.due("41: by that one", x.may(1, 15), 0);
    Due.due("41: THE TEXT", x.look(3), 0);
  }

  /** The answers are those of what was kept, though they were asked for in between. */
  static void promise41AnswersGoBack() {
    ElderChest x = Bounds.made(Bounds::some);
    x.tear();
    x.image();
    long[] was = answers(x);
    x.gone(0, true);
    answers(x);
    x.key(3, 7, true);
    answers(x);
    x.box(1, 7);
    answers(x);
    x.use(0);
    long[] other = answers(x);
    Due.due("41: they were others", !Arrays.equals(was, other));
    x.undo();
    long[] is = answers(x);
    for (int i = 0; i < was.length; i++) {
      Due.due("41: answer " + i, is[i], was[i]);
    }
  }

  private static long[] answers(ElderChest x) {
    return new long[] {x.more(), x.least(-1), x.least(0), x.most(0), x.lets(2, -1), x.lets(2, 0),
        x.shut(2, 0), x.wrongly(2), x.lacks(0), x.same(0, 2), x.bears(2, 1), x.need(0, 8), x.could(0),
        x.fewest(), x.spare(0, 0, 7), x.heavy(0), x.heavy(2), x.had(15), x.opens(0, 15)};
  }

  // ---- 42: "Nothing is kept: 1 if something was, else 0."

  static void promise42Something() {
    Due.due("42: nothing was", new ElderChest().tear(), 0);
    ElderChest x = new ElderChest();
    x.image();
    Due.due("42: an image of nothing is something", x.tear(), 1);
    Due.due("42: then nothing was", x.tear(), 0);
    x.image();
    x.image();
    Due.due("42: of two images one was kept", x.tear(), 1);
    Due.due("42: not both", x.tear(), 0);
    x.image();
    x.undo();
    Due.due("42: undo() keeps it", x.tear(), 1);
    Due.due("42: undo() then", x.undo(), Due.NONE);
    Due.due("42: tear() is no finding", x.status(-1), 1);
  }

  static void promise42LeavesTheRest() {
    Bounds.answersAndLeaves("42: nothing was kept", 0, x -> {
      Bounds.some(x);
      x.tear();
    }, ElderChest::tear);
  }

  // ---- 43: "0 ELDERS, .. 6 bytes of THE TAPE. BEYOND: another what."

  static void promise43What() {
    Bounds.range("43: what", 0, 6, Bounds::nothing, ElderChest::look);
    Bounds.range("43: what", 0, 6, Bounds::some, ElderChest::look);
    long[] due = {4, 3, 2, 1, 5, 1, 11};
    for (int what = 0; what < 7; what++) {
      int asked = what;
      Bounds.answersAndLeaves("43: look(" + what + ")", due[what], Bounds::some,
          x -> x.look(asked));
    }
  }

  static void promise43Full() {
    ElderChest x = new ElderChest();
    fill(x);
    for (int i = 0; i < 30; i++) {
      x.feed(0, 4);
    }
    long[] due = {10, 9, 8, 7, 40, 20, 120};
    for (int what = 0; what < 7; what++) {
      Due.due("43: look(" + what + ")", x.look(what), due[what]);
    }
    x.elder(0);
    x.lock(0, false);
    x.lend(0, 1, 0);
    x.feed(0, 1);
    x.text();
    for (int what = 0; what < 7; what++) {
      Due.due("43: look(" + what + ") behind FULL", x.look(what), due[what]);
    }
    Due.due("43: FULL so often", x.status(1), 5);
  }

  // ---- 44: "How many acts answered a finding ever (undo() takes none back): which -1: all, 0 to 6:
  // BEYOND to SIZE. BEYOND (counted from then on): another one."

  static void promise44Which() {
    Bounds.range("44: which", -1, 6, Bounds::nothing, ElderChest::status);
    Bounds.range("44: which", -1, 6, Bounds::some, ElderChest::status);
    for (int which = -1; which < 7; which++) {
      int asked = which;
      Bounds.answersAndLeaves("44: status(" + which + ")", 0, Bounds::some, x -> x.status(asked));
    }
  }

  static void promise44CountedFromThenOn() {
    for (int which : new int[] {-2, 7, Integer.MIN_VALUE, Integer.MAX_VALUE}) {
      ElderChest x = new ElderChest();
      Due.due("44: status(" + which + ")", x.status(which), Due.BEYOND);
      Due.due("44: it is counted", x.status(0), 1);
      Due.due("44: and in all", x.status(-1), 1);
      Due.due("44: asking counts nothing", x.status(-1), 1);
      Due.due("44: again", x.status(which), Due.BEYOND);
      Due.due("44: both are", x.status(0), 2);
    }
  }

  static void promise44EachFinding() {
    for (int which = 0; which < 7; which++) {
      ElderChest x = Bounds.made(Bounds::someAndTenElders);
      if (which == 4) {
        x = Bounds.made(Bounds::ten);
      }
      for (int times = 1; times <= 3; times++) {
        Due.due("44: the finding " + which, finding(x, which), Due.BEYOND - which);
        for (int asked = -1; asked < 7; asked++) {
          Due.due("44: status(" + asked + ") behind " + which, x.status(asked),
              asked == -1 || asked == which ? times : 0);
        }
      }
    }
  }

  private static long finding(ElderChest x, int which) {
    switch (which) {
      case 0:
        return x.look(7);
      case 1:
        return x.elder(0);
      case 2:
        return x.as(0, 2);
      case 3:
        return x.more();
      case 4:
        return x.more();
      case 5:
        return x.write(3, 0, 0);
      default:
        return x.sheet(0, 8, -1);
    }
  }

  static void promise44UndoTakesNoneBack() {
    ElderChest x = new ElderChest();
    x.look(7);
    x.image();
    x.look(7);
    Due.due("44: undo()", x.undo(), 0);
    Due.due("44: both stay", x.status(0), 2);
    x.tear();
    Due.due("44: undo() of nothing", x.undo(), Due.NONE);
    Due.due("44: is one more", x.status(-1), 3);
    Due.due("44: NONE", x.status(3), 1);
  }

  /** Answers that are no findings: a FAULT, a 0, a number on a sheet that looks like one. */
  static void promise44NoFindings() {
    ElderChest x = Bounds.made(Bounds::some);
    x.write(2, 0, Due.BEYOND);
    Due.due("44: a number that looks like one", x.write(2, 0, 0), Due.BEYOND);
    x.feed('x', 1);
    Due.due("44: a FAULT", x.text(), -12);
    x.gone(0, false);
    x.key(0, 7, true);
    x.opens(0, 0);
    x.round(4, 0);
    Due.due("44: none", x.status(-1), 0);
  }
}
