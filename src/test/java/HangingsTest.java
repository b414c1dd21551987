/** Promises 13 to 22: lock, chain, box, hanging, as, key, lend, opens, had, round. */
final class HangingsTest {
  private static final int LOCK = 1;
  private static final int CHAIN = 2;
  private static final int ROW = 3;
  private static final int BOX = 4;
  private static final int OLD = 5;

  public static void main(String[] args) {
    promise13Lock();
    promise14Chain();
    promise15Box();
    promise16Hanging();
    promise16ManyWithin();
    promise17As();
    promise18Key();
    promise19Lend();
    promise20Opens();
    promise20Kinds();
    promise21Had();
    promise22Round();
    Due.end("HangingsTest");
  }

  private static ElderChest full() {
    ElderChest x = new ElderChest();
    for (int i = 0; i < 40; i++) {
      x.lock(i % 24, i % 2 == 1);
    }
    return x;
  }

  private static void promise13Lock() {
    ElderChest x = new ElderChest();
    for (int key : new int[] {-1, 24, Integer.MIN_VALUE, Integer.MAX_VALUE}) {
      Due.due("13: lock(" + key + ", false)", x.lock(key, false), Due.BEYOND);
      Due.due("13: lock(" + key + ", true)", x.lock(key, true), Due.BEYOND);
    }
    Due.due("13: none came", x.look(4), 0);
    for (int i = 0; i < 40; i++) {
      Due.due("13: lock " + i, x.lock(i % 24, i % 2 == 1), i);
      Due.due("13: its KEY", x.hanging(i, 1), i % 24);
      Due.due("13: its kind", x.hanging(i, 0), i % 2 == 1 ? OLD : LOCK);
    }
    Due.due("13: FULL", x.lock(0, false), Due.FULL);
    Due.due("13: FULL, old", x.lock(23, true), Due.FULL);
    Due.due("13: BEYOND ahead of FULL", x.lock(24, true), Due.BEYOND);
    Due.due("13: HANGINGS", x.look(4), 40);
  }

  private static void promise14Chain() {
    ElderChest x = new ElderChest();
    Due.due("14: without HANGINGS", x.chain(0, 0, false), Due.BEYOND);
    x.lock(0, false);
    x.lock(1, false);
    Due.due("14: of itself", x.chain(0, 2, false), Due.BEYOND);
    Due.due("14: the first is wrong", x.chain(-1, 0, true), Due.BEYOND);
    Due.due("14: the second is wrong", x.chain(0, -1, true), Due.BEYOND);
    Due.due("14: MAX", x.chain(Integer.MAX_VALUE, Integer.MIN_VALUE, true), Due.BEYOND);
    Due.due("14: chain(0, 1, false)", x.chain(0, 1, false), 2);
    Due.due("14: chain(2, 0, true)", x.chain(2, 0, true), 3);
    Due.due("14: of one twice", x.chain(3, 3, true), 4);
    Due.due("14: kind of a CHAIN", x.hanging(2, 0), CHAIN);
    Due.due("14: kind of a ROW", x.hanging(3, 0), ROW);
    Due.due("14: its first", x.hanging(3, 2), 2);
    Due.due("14: its second", x.hanging(3, 3), 0);
    ElderChest y = new ElderChest();
    y.lock(3, true);
    for (int i = 1; i < 40; i++) {
      Due.due("14: up to 40", y.chain(i - 1, 0, i % 2 == 0), i);
    }
    y = full();
    Due.due("14: FULL", y.chain(0, 1, false), Due.FULL);
    Due.due("14: FULL, row", y.chain(39, 39, true), Due.FULL);
    Due.due("14: BEYOND ahead of FULL", y.chain(0, 40, false), Due.BEYOND);
    Due.due("14: HANGINGS", y.look(4), 40);
  }

  private static void promise15Box() {
    ElderChest x = new ElderChest();
    Due.due("15: without HANGINGS", x.box(0, 0), Due.BEYOND);
    x.lock(5, false);
    for (int wrong : new int[] {-1, 24, Integer.MIN_VALUE, Integer.MAX_VALUE}) {
      Due.due("15: box(0, " + wrong + ")", x.box(0, wrong), Due.BEYOND);
      Due.due("15: box(" + wrong + ", 0)", x.box(wrong, 0), Due.BEYOND);
    }
    Due.due("15: box(1, 0)", x.box(1, 0), Due.BEYOND);
    Due.due("15: box(0, 23)", x.box(0, 23), 1);
    Due.due("15: box(1, 0) then", x.box(1, 0), 2);
    Due.due("15: its kind", x.hanging(2, 0), BOX);
    Due.due("15: its KEY", x.hanging(1, 1), 23);
    Due.due("15: what it is about", x.hanging(2, 2), 1);
    ElderChest y = new ElderChest();
    y.lock(3, true);
    for (int i = 1; i < 40; i++) {
      Due.due("15: up to 40", y.box(i - 1, i % 24), i);
      Due.due("15: COST", y.hanging(i, 4), 2 + 4 * i);
    }
    y = full();
    Due.due("15: FULL", y.box(0, 0), Due.FULL);
    Due.due("15: BEYOND ahead of FULL", y.box(40, 0), Due.BEYOND);
    Due.due("15: BEYOND ahead of FULL, key", y.box(0, 24), Due.BEYOND);
  }

  /** LOCK 0, OLD 1, CHAIN 2 of both, ROW 3 of 2 and 0, BOX 4 about 3. */
  private static ElderChest oneOfEach() {
    ElderChest x = new ElderChest();
    x.lock(7, false);
    x.lock(9, true);
    x.chain(0, 1, false);
    x.chain(2, 0, true);
    x.box(3, 11);
    return x;
  }

  private static void promise16Hanging() {
    ElderChest x = oneOfEach();
    long[][] due = {
        {LOCK, 7, Due.KIND, Due.KIND, 3, 1},
        {OLD, 9, Due.KIND, Due.KIND, 2, 1},
        {CHAIN, Due.KIND, 0, 1, 6, 2},
        {ROW, Due.KIND, 2, 0, 11, 3},
        {BOX, 11, 3, Due.KIND, 15, 3}};
    for (int h = 0; h < 5; h++) {
      for (int what = 0; what < 6; what++) {
        Due.due("16: hanging(" + h + ", " + what + ")", x.hanging(h, what), due[h][what]);
      }
    }
    Due.due("16: KIND so often", x.status(2), 7);
    int[][] wrong = {{-1, 0}, {5, 0}, {0, -1}, {0, 6}, {40, 4}, {Integer.MIN_VALUE, 1},
        {Integer.MAX_VALUE, 1}, {2, Integer.MAX_VALUE}, {2, Integer.MIN_VALUE}};
    for (int[] pair : wrong) {
      Due.due("16: hanging(" + pair[0] + ", " + pair[1] + ")", x.hanging(pair[0], pair[1]),
          Due.BEYOND);
    }
  }

  private static void promise16ManyWithin() {
    ElderChest x = new ElderChest();
    x.lock(0, false);
    int locks = 1;
    int cost = 3;
    for (int h = 1; h < 29; h++) {
      x.chain(h - 1, h - 1, h % 2 == 0);
      locks *= 2;
      cost = 2 * cost + (h % 2 == 0 ? 2 : 1);
      Due.due("16: LOCKS within " + h, x.hanging(h, 5), locks);
      Due.due("16: COST of " + h, x.hanging(h, 4), cost);
    }
    for (int h = 29; h < 40; h++) {
      Due.due("16: it goes on to 40", x.chain(h - 1, h - 1, true), h);
    }
    x.elder(0);
    Due.due("16: it isn't open", x.opens(39, 1), 0);
    x.key(0, 0, true);
    Due.due("16: it opens", x.opens(39, 1), 1);
  }

  private static void promise17As() {
    ElderChest x = oneOfEach();
    boolean[][] is = {
        {true, true, false, false, false, false},
        {true, true, false, false, false, true},
        {true, false, true, false, false, false},
        {true, false, true, true, false, false},
        {true, false, false, false, true, false}};
    for (int h = 0; h < 5; h++) {
      for (int kind = 0; kind < 6; kind++) {
        Due.due("17: as(" + h + ", " + kind + ")", x.as(h, kind), is[h][kind] ? h : Due.KIND);
      }
    }
    int[][] wrong = {{-1, 0}, {5, 0}, {0, -1}, {0, 6}, {Integer.MAX_VALUE, 9},
        {1, Integer.MIN_VALUE}, {1, Integer.MAX_VALUE}};
    for (int[] pair : wrong) {
      Due.due("17: as(" + pair[0] + ", " + pair[1] + ")", x.as(pair[0], pair[1]), Due.BEYOND);
    }
  }

  private static void promise18Key() {
    ElderChest x = Due.withElders(1, 1);
    Due.due("18: off at first", x.key(0, 3, false), 0);
    Due.due("18: on", x.key(0, 3, true), 1);
    Due.due("18: on again", x.key(0, 3, true), 0);
    Due.due("18: another one on", x.key(0, 23, true), 1);
    Due.due("18: the RING", x.of(0, 2), 1 << 3 | 1 << 23);
    Due.due("18: the other RING", x.of(1, 2), 0);
    Due.due("18: off", x.key(0, 3, false), 1);
    Due.due("18: off again", x.key(0, 3, false), 0);
    Due.due("18: the RING then", x.of(0, 2), 1 << 23);
    int[][] wrong = {{-1, 0}, {2, 0}, {0, -1}, {0, 24}, {0, 32}, {Integer.MAX_VALUE, 0},
        {0, Integer.MIN_VALUE}};
    for (int[] pair : wrong) {
      Due.due("18: key(" + pair[0] + ", " + pair[1] + ")", x.key(pair[0], pair[1], true),
          Due.BEYOND);
    }
    x.gone(1, true);
    Due.due("18: for one who is GONE", x.key(1, 0, true), 1);
  }

  private static void promise19Lend() {
    ElderChest x = Due.withElders(1, 1, 1);
    x.key(0, 5, true);
    int[][] wrong = {{-1, 1, 5}, {3, 1, 5}, {0, -1, 5}, {0, 3, 5}, {0, 0, 5}, {1, 1, 5},
        {0, 1, -1}, {0, 1, 24}, {0, 1, 37}, {Integer.MAX_VALUE, Integer.MAX_VALUE, 0}};
    for (int[] w : wrong) {
      Due.due("19: lend(" + w[0] + ", " + w[1] + ", " + w[2] + ")", x.lend(w[0], w[1], w[2]),
          Due.BEYOND);
    }
    Due.due("19: not on that RING", x.lend(0, 1, 6), Due.NONE);
    Due.due("19: on the other RING", x.lend(1, 0, 5), Due.NONE);
    for (int i = 1; i <= 20; i++) {
      Due.due("19: lent " + i, x.lend(0, 1 + i % 2, 5), i);
    }
    Due.due("19: FULL", x.lend(0, 1, 5), Due.FULL);
    Due.due("19: NONE ahead of FULL", x.lend(0, 1, 6), Due.NONE);
    Due.due("19: BEYOND ahead of FULL", x.lend(0, 0, 5), Due.BEYOND);
    Due.due("19: look(5)", x.look(5), 20);
    Due.due("19: lent to 1", x.of(1, 4), 10);
    Due.due("19: lent to 2", x.of(2, 4), 10);
    Due.due("19: lent to 0", x.of(0, 4), 0);
    Due.due("19: the KEY stays on the RING", x.of(0, 2), 1 << 5);
    Due.due("19: it is on no other one", x.of(1, 2), 0);
  }

  private static void promise20Opens() {
    ElderChest x = Due.withElders(1, 1);
    x.lock(0, false);
    x.lock(1, false);
    x.chain(0, 1, true);
    x.key(0, 0, true);
    x.key(1, 1, true);
    long[][] due = {{0, 1, 0, 1}, {0, 0, 1, 1}, {0, 0, 0, 1}};
    for (int h = 0; h < 3; h++) {
      for (int set = 0; set < 4; set++) {
        Due.due("20: opens(" + h + ", " + set + ")", x.opens(h, set), due[h][set]);
      }
    }
    int[][] wrong = {{-1, 0}, {3, 0}, {0, 4}, {0, -1}, {63, 1}, {Integer.MAX_VALUE, 1},
        {1, Integer.MIN_VALUE}};
    for (int[] pair : wrong) {
      Due.due("20: opens(" + pair[0] + ", " + pair[1] + ")", x.opens(pair[0], pair[1]),
          Due.BEYOND);
    }
  }

  private static void promise20Kinds() {
    for (int key = 0; key < 24; key++) {
      ElderChest x = Due.withElders(1);
      x.lock(5, false);
      x.lock(5, true);
      x.lock(23, true);
      x.chain(0, 2, false);
      x.box(3, 1);
      x.chain(4, 1, true);
      x.key(0, key, true);
      boolean[] due = {key == 5, key == 5 || key == 6, key == 23 || key == 0,
          key == 5 || key == 23 || key == 0, key == 5 || key == 23 || key == 0, key == 5};
      for (int h = 0; h < 6; h++) {
        Due.due("20: opens(" + h + ") with KEY " + key, x.opens(h, 1), due[h] ? 1 : 0);
      }
    }
  }

  private static void promise21Had() {
    ElderChest x = Due.withElders(1, 1, 1);
    x.lock(0, false);
    x.lock(2, false);
    x.chain(0, 1, true);
    x.box(2, 20);
    x.lock(20, false);
    x.box(4, 2);
    x.key(0, 0, true);
    x.key(1, 2, true);
    x.key(2, 20, true);
    Due.due("21: had(0)", x.had(0), 0);
    Due.due("21: had(1)", x.had(1), 1);
    Due.due("21: had(2)", x.had(2), 4);
    Due.due("21: had(3)", x.had(3), 1 | 4 | 1 << 20);
    Due.due("21: had(4)", x.had(4), 4 | 1 << 20);
    Due.due("21: had(5)", x.had(5), 1 | 4 | 1 << 20);
    for (int wrong : new int[] {8, -1, Integer.MIN_VALUE, Integer.MAX_VALUE}) {
      Due.due("21: had(" + wrong + ")", x.had(wrong), Due.BEYOND);
    }
    boxInBox();
  }

  private static void boxInBox() {
    ElderChest x = Due.withElders(1);
    x.lock(0, false);
    x.box(0, 1);
    x.box(1, 2);
    x.lock(9, false);
    x.box(3, 9);
    x.key(0, 0, true);
    Due.due("21: a BOX about a BOX opens with it", x.had(1), 7);
    Due.due("22: in the same ROUND", x.round(2, 1), 1);
    Due.due("21: a BOX in which its own KEY lies stays shut", x.opens(4, 1), 0);
  }

  private static void promise22Round() {
    ElderChest x = Due.withElders(1, 1);
    // 19 BOXES one behind another, the last of them first.
    for (int i = 18; i >= 0; i--) {
      x.lock(i, false);
      x.box(x.look(4) - 1, i + 1);
    }
    x.key(0, 0, true);
    x.key(1, 9, true);
    for (int i = 0; i < 19; i++) {
      int box = 2 * (18 - i) + 1;
      Due.due("22: BOX of KEY " + i + " for {0}", x.round(box, 1), i + 1);
      Due.due("22: BOX of KEY " + i + " for {1}", x.round(box, 2), i < 9 ? 0 : i - 8);
      Due.due("22: BOX of KEY " + i + " for both", x.round(box, 3), i < 9 ? i + 1 : i - 8);
      Due.due("22: BOX of KEY " + i + " for none", x.round(box, 0), 0);
    }
    Due.due("22: a LOCK", x.round(0, 1), Due.KIND);
    x.chain(0, 1, false);
    Due.due("22: a CHAIN with a BOX", x.round(38, 1), Due.KIND);
    Due.due("22: BEYOND", x.round(39, 0), Due.BEYOND);
    Due.due("22: BEYOND, -1", x.round(-1, 0), Due.BEYOND);
    Due.due("22: BEYOND, the SET", x.round(1, 4), Due.BEYOND);
    Due.due("22: BEYOND ahead of KIND", x.round(0, 4), Due.BEYOND);
    Due.due("22: BEYOND ahead of KIND, -1", x.round(0, -1), Due.BEYOND);
  }
}
