/** Promises 13 to 22 and Terms, section 2, at their bounds: hangings, keys, rounds. */
final class BoundsHangingsTest {
  private static final int MIN = Integer.MIN_VALUE;
  private static final int MAX = Integer.MAX_VALUE;
  private static final int LOCK = 1;
  private static final int CHAIN = 2;
  private static final int ROW = 3;
  private static final int BOX = 4;
  private static final int OLD = 5;

  public static void main(String[] args) {
    Due.runAll(BoundsHangingsTest.class);
  }

  // ---- Terms 2

  /** "KEYS 0 to 23; each ELDER has a RING, a SET of KEYS (none at first)." */
  static void terms2Keys() {
    ElderChest x = Bounds.made(Bounds::ten);
    for (int elder = 0; elder < 10; elder++) {
      Due.due("Terms 2: a RING at first", x.of(elder, 2), 0);
    }
    for (int key = -2; key <= 26; key++) {
      boolean taken = key >= 0 && key <= 23;
      Due.due("Terms 2: KEY " + key, x.key(0, key, true), taken ? 1 : Due.BEYOND);
    }
    Due.due("Terms 2: all KEYS", x.of(0, 2), (1 << 24) - 1);
    Due.due("Terms 2: on that RING alone", x.of(1, 2), 0);
  }

  /** "HANGINGS 0, 1, .. (at most 40)": of each kind. */
  static void terms2AtMostFortyHangings() {
    ElderChest x = new ElderChest();
    x.lock(0, false);
    for (int i = 1; i < 40; i++) {
      int made = i % 4 == 0 ? x.lock(i % 24, true) : i % 4 == 1 ? x.chain(0, i - 1, false)
          : i % 4 == 2 ? x.chain(i - 1, 0, true) : x.box(i - 1, i % 24);
      Due.due("Terms 2: HANGING " + i, made, i);
    }
    long[] more = {x.lock(0, false), x.lock(0, true), x.chain(0, 0, false), x.chain(0, 0, true),
        x.box(0, 0)};
    for (long answer : more) {
      Due.due("Terms 2: a 41st", answer, Due.FULL);
    }
    Due.due("Terms 2: forty are there", x.look(4), 40);
  }

  private static ElderChest withKeys(int keys) {
    ElderChest x = Due.withElders(0);
    for (int key = 0; key < 24; key++) {
      if ((keys >> key & 1) != 0) {
        x.key(0, key, true);
      }
    }
    return x;
  }

  /** "LOCK (opens with its KEY)": with each KEY alone, and with all others. */
  static void terms2Lock() {
    for (int lock : new int[] {0, 1, 22, 23}) {
      for (int key = 0; key < 24; key++) {
        ElderChest x = withKeys(1 << key);
        x.lock(lock, false);
        Due.due("Terms 2: LOCK " + lock + " with " + key, x.opens(0, 1), key == lock ? 1 : 0);
      }
      ElderChest y = withKeys(0xFFFFFF & ~(1 << lock));
      y.lock(lock, false);
      Due.due("Terms 2: LOCK " + lock + " with all others", y.opens(0, 1), 0);
    }
  }

  /** "OLD (.. or with the next greater one; behind 23 stands 0)" */
  static void terms2Old() {
    for (int lock = 0; lock < 24; lock++) {
      int next = lock == 23 ? 0 : lock + 1;
      for (int key = 0; key < 24; key++) {
        ElderChest x = withKeys(1 << key);
        x.lock(lock, true);
        Due.due("Terms 2: OLD " + lock + " with " + key, x.opens(0, 1),
            key == lock || key == next ? 1 : 0);
      }
      ElderChest y = withKeys(0xFFFFFF & ~(1 << lock) & ~(1 << next));
      y.lock(lock, true);
      Due.due("Terms 2: OLD " + lock + " with all others", y.opens(0, 1), 0);
    }
  }

  /** "CHAIN (opens if one of them does), ROW (if both do), BOX (if that one does)" */
  static void terms2Joined() {
    for (int keys = 0; keys < 4; keys++) {
      ElderChest x = withKeys(keys);
      x.lock(0, false);
      x.lock(1, false);
      x.chain(0, 1, false);
      x.chain(0, 1, true);
      x.chain(0, 0, false);
      x.chain(1, 1, true);
      x.box(3, 9);
      x.box(2, 9);
      boolean a = (keys & 1) != 0;
      boolean b = (keys & 2) != 0;
      boolean[] due = {a, b, a || b, a && b, a, b, a && b, a || b};
      for (int h = 0; h < due.length; h++) {
        Due.due("Terms 2: " + h + " with " + keys, x.opens(h, 1), due[h] ? 1 : 0);
      }
    }
  }

  /** "COST: LOCK 3, OLD 1 less, CHAIN 1 and that of its two, ROW 1 more .., BOX 4 and .." */
  static void terms2Cost() {
    ElderChest x = new ElderChest();
    x.lock(0, false);
    x.lock(0, true);
    x.chain(0, 1, false);
    x.chain(0, 1, true);
    x.chain(1, 1, false);
    x.box(0, 0);
    x.box(5, 0);
    x.chain(2, 6, true);
    long[] costs = {3, 2, 1 + 3 + 2, 2 + 3 + 2, 1 + 2 + 2, 4 + 3, 4 + 4 + 3, 2 + 6 + 11};
    long[] locks = {1, 1, 2, 2, 2, 1, 1, 3};
    for (int h = 0; h < costs.length; h++) {
      Due.due("Terms 2, 16: COST of " + h, x.hanging(h, 4), costs[h]);
      Due.due("Terms 2, 16: LOCKS within " + h, x.hanging(h, 5), locks[h]);
    }
  }

  /** "its KEY is had behind the ROUND": not in the same one, whichever BOX was made first. */
  static void terms2KeyIsHadBehindTheRound() {
    ElderChest x = Due.withElders(0);
    x.lock(0, false);
    x.lock(1, false);
    x.box(0, 1);
    x.box(1, 2);
    x.key(0, 0, true);
    Due.due("Terms 2: the BOX that opens by the RING", x.round(2, 1), 1);
    Due.due("Terms 2: the one behind it", x.round(3, 1), 2);
    ElderChest y = Due.withElders(0);
    y.lock(1, false);
    y.lock(0, false);
    y.box(0, 2);
    y.box(1, 1);
    y.key(0, 0, true);
    Due.due("Terms 2: made last", y.round(3, 1), 1);
    Due.due("Terms 2: made first", y.round(2, 1), 2);
  }

  /** "till a ROUND opens none": a BOX whose KEY is had by then opens, too, and gives nothing new. */
  static void terms2TillARoundOpensNone() {
    ElderChest x = Due.withElders(0);
    x.lock(0, false);
    x.box(0, 0);
    x.box(0, 1);
    x.lock(1, false);
    x.box(3, 0);
    x.key(0, 0, true);
    Due.due("Terms 2: its own KEY lies in it", x.round(1, 1), 1);
    Due.due("Terms 2: KEY 1 lies in it", x.round(2, 1), 1);
    Due.due("Terms 2: KEY 0, that is had, lies in it", x.round(4, 1), 2);
    Due.due("Terms 2: KEYS in the end", x.had(1), 3);
    ElderChest y = Due.withElders(0);
    y.lock(0, false);
    y.box(0, 0);
    Due.due("Terms 2: a BOX with its own KEY inside", y.round(1, 1), 0);
    Due.due("Terms 2: nothing is had", y.had(1), 0);
  }

  /** "a SET OPENS a HANGING, if that opens with all KEYS that it has in the end" */
  static void terms2InTheEnd() {
    ElderChest x = new ElderChest();
    // 20 BOXES one behind another are as many as there can be.
    for (int i = 19; i >= 0; i--) {
      int lock = x.lock(i, false);
      x.box(lock, i + 1);
    }
    x.elder(0);
    x.elder(0);
    x.key(0, 0, true);
    for (int i = 0; i < 20; i++) {
      int lock = 2 * (19 - i);
      Due.due("Terms 2: LOCK of KEY " + i, x.opens(lock, 1), 1);
      Due.due("Terms 2: for the other one", x.opens(lock, 2), 0);
      Due.due("Terms 2: ROUND of BOX " + i, x.round(lock + 1, 1), i + 1);
      Due.due("Terms 2: for the other one", x.round(lock + 1, 2), 0);
    }
    Due.due("Terms 2: KEYS in the end", x.had(1), (1 << 21) - 1);
    x.key(0, 0, false);
    x.key(1, 20, true);
    Due.due("Terms 2: the last KEY alone", x.had(3), 1 << 20);
    x.key(1, 19, true);
    Due.due("Terms 2: the one ahead of it", x.round(1, 3), 1);
    Due.due("Terms 2: the BOX ahead of that", x.round(3, 3), 0);
  }

  // ---- 13: "A new LOCK (old false), or OLD one with a KEY: its number. BEYOND. FULL."

  static void promise13Key() {
    for (boolean old : new boolean[] {false, true}) {
      Bounds.range("13: lock", 0, 23, Bounds::nothing, (x, key) -> x.lock(key, old));
      Bounds.range("13: lock", 0, 23, Bounds::some, (x, key) -> x.lock(key, old));
      for (int key : new int[] {0, 23}) {
        ElderChest x = new ElderChest();
        Due.due("13: its number", x.lock(key, old), 0);
        Due.due("13: its kind", x.hanging(0, 0), old ? OLD : LOCK);
        Due.due("13: its KEY", x.hanging(0, 1), key);
      }
    }
  }

  static void promise13Full() {
    for (boolean old : new boolean[] {false, true}) {
      Bounds.refused("13: a 41st", Due.FULL, Bounds::someAndFortyHangings, x -> x.lock(0, old));
      Due.due("13: a 40th", fullBut(1).lock(0, old), 39);
    }
  }

  static void promise13BeyondAheadOfFull() {
    for (int key : new int[] {-1, 24, MIN, MAX}) {
      Bounds.refused("13: KEY " + key, Due.BEYOND, Bounds::someAndFortyHangings,
          x -> x.lock(key, true));
    }
  }

  private static ElderChest fullBut(int few) {
    ElderChest x = new ElderChest();
    for (int i = few; i < 40; i++) {
      x.lock(i % 24, false);
    }
    return x;
  }

  // ---- 14: "A new CHAIN (row false), or ROW of two HANGINGS (that may be one): its number. BEYOND.
  // FULL."

  static void promise14Hangings() {
    for (boolean row : new boolean[] {false, true}) {
      Bounds.range("14: a", 0, -1, Bounds::nothing, (x, a) -> x.chain(a, 0, row));
      Bounds.range("14: a", 0, 4, Bounds::some, (x, a) -> x.chain(a, 0, row));
      Bounds.range("14: b", 0, 4, Bounds::some, (x, b) -> x.chain(4, b, row));
      Bounds.range("14: both", 0, 4, Bounds::some, (x, h) -> x.chain(h, h, row));
    }
  }

  static void promise14MayBeOne() {
    for (boolean row : new boolean[] {false, true}) {
      ElderChest x = withKeys(1);
      x.lock(0, false);
      Due.due("14: of one twice", x.chain(0, 0, row), 1);
      Due.due("14: its first", x.hanging(1, 2), 0);
      Due.due("14: its second", x.hanging(1, 3), 0);
      Due.due("14: its LOCKS", x.hanging(1, 5), 2);
      Due.due("14: it opens with that one", x.opens(1, 1), 1);
      Due.due("14: but not without", x.opens(1, 0), 0);
    }
  }

  static void promise14Full() {
    for (boolean row : new boolean[] {false, true}) {
      Bounds.refused("14: a 41st", Due.FULL, Bounds::someAndFortyHangings,
          x -> x.chain(0, 39, row));
      Due.due("14: a 40th", fullBut(1).chain(38, 0, row), 39);
    }
  }

  static void promise14BeyondAheadOfFull() {
    for (int h : new int[] {-1, 40, MIN, MAX}) {
      Bounds.refused("14: a " + h, Due.BEYOND, Bounds::someAndFortyHangings,
          x -> x.chain(h, 0, true));
      Bounds.refused("14: b " + h, Due.BEYOND, Bounds::someAndFortyHangings,
          x -> x.chain(0, h, false));
    }
  }

  // ---- 15: "A new BOX about a HANGING, in which a KEY lies: its number. BEYOND. FULL."

  static void promise15HangingAndKey() {
    Bounds.range("15: about", 0, -1, Bounds::nothing, (x, h) -> x.box(h, 0));
    Bounds.range("15: about", 0, 4, Bounds::some, (x, h) -> x.box(h, 0));
    Bounds.range("15: KEY", 0, 23, Bounds::some, (x, key) -> x.box(4, key));
    Bounds.refused("15: both", Due.BEYOND, Bounds::some, x -> x.box(5, 24));
    ElderChest x = Bounds.made(Bounds::some);
    Due.due("15: its number", x.box(4, 23), 5);
    Due.due("15: its KEY", x.hanging(5, 1), 23);
    Due.due("15: what it is about", x.hanging(5, 2), 4);
  }

  static void promise15Full() {
    Bounds.refused("15: a 41st", Due.FULL, Bounds::someAndFortyHangings, x -> x.box(39, 23));
    Due.due("15: a 40th", fullBut(1).box(38, 23), 39);
  }

  static void promise15BeyondAheadOfFull() {
    Bounds.refused("15: about 40", Due.BEYOND, Bounds::someAndFortyHangings, x -> x.box(40, 0));
    Bounds.refused("15: about -1", Due.BEYOND, Bounds::someAndFortyHangings, x -> x.box(-1, 0));
    Bounds.refused("15: KEY 24", Due.BEYOND, Bounds::someAndFortyHangings, x -> x.box(0, 24));
    Bounds.refused("15: KEY -1", Due.BEYOND, Bounds::someAndFortyHangings, x -> x.box(0, -1));
  }

  // ---- 16: "what 0 kind, 1 KEY (LOCK, BOX), 2 .. (CHAIN), .. (BOX), 3 .. (CHAIN), 4 COST, 5 LOCKS
  // within. BEYOND. KIND: it has none such (those under a kind have what that has)."

  static void promise16Hanging() {
    Bounds.range("16: h", 0, -1, Bounds::nothing, (x, h) -> x.hanging(h, 0));
    Bounds.range("16: h", 0, 4, Bounds::some, (x, h) -> x.hanging(h, 0));
    Bounds.range("16: h", 0, 39, Bounds::someAndFortyHangings, (x, h) -> x.hanging(h, 5));
    // No such HANGING has no kind: BEYOND it is for each what.
    for (int what = 0; what < 6; what++) {
      int asked = what;
      Bounds.refused("16: what " + what, Due.BEYOND, Bounds::some, x -> x.hanging(5, asked));
    }
  }

  static void promise16What() {
    for (int h = 0; h < 5; h++) {
      int one = h;
      Bounds.range("16: what of " + h, 0, 5, Bounds::some, (x, what) -> x.hanging(one, what));
    }
  }

  static void promise16KindFindings() {
    int[][] none = {{0, 2}, {0, 3}, {1, 2}, {1, 3}, {2, 1}, {3, 1}, {4, 3}};
    for (int[] pair : none) {
      Bounds.refused("16: hanging(" + pair[0] + ", " + pair[1] + ")", Due.KIND, Bounds::some,
          x -> x.hanging(pair[0], pair[1]));
    }
  }

  static void promise16UnderAKind() {
    // OLD has what LOCK has, ROW what CHAIN has.
    ElderChest x = Bounds.made(Bounds::some);
    Due.due("16: KEY of OLD", x.hanging(1, 1), 23);
    Due.due("16: the first of a ROW", x.hanging(3, 2), 2);
    Due.due("16: the second of a ROW", x.hanging(3, 3), 0);
    Due.due("16: KEY of a LOCK", x.hanging(0, 1), 7);
    Due.due("16: KEY of a BOX", x.hanging(4, 1), 11);
    Due.due("16: what a BOX is about", x.hanging(4, 2), 3);
    int[] kinds = {LOCK, OLD, CHAIN, ROW, BOX};
    for (int h = 0; h < 5; h++) {
      Due.due("16: kind of " + h, x.hanging(h, 0), kinds[h]);
    }
    Bounds.answersAndLeaves("16: an answer", 15, Bounds::some, y -> y.hanging(4, 4));
  }

  /** LOCKS "each as often as it is there": what goes beyond int wraps around. */
  static void promise16Wraps() {
    ElderChest x = new ElderChest();
    x.lock(0, false);
    long locks = 1;
    long cost = 3;
    for (int h = 1; h < 40; h++) {
      boolean row = h % 3 == 0;
      Due.due("16: CHAIN " + h, x.chain(h - 1, h - 1, row), h);
      locks = 2 * locks;
      cost = 2 * cost + (row ? 2 : 1);
      Due.due("16: LOCKS within " + h, x.hanging(h, 5), (int) locks);
      Due.due("16: COST of " + h, x.hanging(h, 4), (int) cost);
    }
    Due.due("16: no findings", x.status(-1), 0);
  }

  // ---- 17: "A HANGING as one of a kind: its number. BEYOND: no such HANGING, kind. KIND: .."

  static void promise17HangingAndKind() {
    Bounds.range("17: h", 0, -1, Bounds::nothing, (x, h) -> x.as(h, 0));
    Bounds.range("17: h", 0, 4, Bounds::some, (x, h) -> x.as(h, 0));
    Bounds.range("17: h", 0, 39, Bounds::someAndFortyHangings, (x, h) -> x.as(h, 0));
    for (int h = 0; h < 5; h++) {
      int one = h;
      Bounds.range("17: kind of " + h, 0, 5, Bounds::some, (x, kind) -> x.as(one, kind));
    }
    Bounds.refused("17: both", Due.BEYOND, Bounds::some, x -> x.as(5, 6));
  }

  static void promise17KindFindings() {
    boolean[][] is = {
        {true, true, false, false, false, false},
        {true, true, false, false, false, true},
        {true, false, true, false, false, false},
        {true, false, true, true, false, false},
        {true, false, false, false, true, false}};
    for (int h = 0; h < 5; h++) {
      for (int kind = 0; kind < 6; kind++) {
        int one = h;
        int asked = kind;
        String call = "17: as(" + h + ", " + kind + ")";
        if (is[h][kind]) {
          Bounds.answersAndLeaves(call, h, Bounds::some, x -> x.as(one, asked));
        } else {
          Bounds.refused(call, Due.KIND, Bounds::some, x -> x.as(one, asked));
        }
      }
    }
  }

  // ---- 18: "A KEY comes on a RING (on), or goes from it: 1 if that is new, else 0. BEYOND."

  static void promise18ElderAndKey() {
    for (boolean on : new boolean[] {true, false}) {
      Bounds.range("18: ELDER", 0, -1, Bounds::nothing, (x, elder) -> x.key(elder, 0, on));
      Bounds.range("18: ELDER", 0, 3, Bounds::some, (x, elder) -> x.key(elder, 0, on));
      Bounds.range("18: ELDER", 0, 9, Bounds::ten, (x, elder) -> x.key(elder, 23, on));
      Bounds.range("18: KEY", 0, 23, Bounds::some, (x, key) -> x.key(0, key, on));
      Bounds.refused("18: both", Due.BEYOND, Bounds::some, x -> x.key(4, 24, on));
    }
  }

  static void promise18NewOrNot() {
    ElderChest x = Bounds.made(Bounds::ten);
    for (int elder : new int[] {0, 9}) {
      for (int key : new int[] {0, 23}) {
        int was = x.of(elder, 2);
        Due.due("18: goes, which wasn't there", x.key(elder, key, false), 0);
        Due.due("18: comes", x.key(elder, key, true), 1);
        Due.due("18: the RING", x.of(elder, 2), was | 1 << key);
        Due.due("18: comes again", x.key(elder, key, true), 0);
        Due.due("18: the RING still", x.of(elder, 2), was | 1 << key);
        Due.due("18: goes", x.key(elder, key, false), 1);
        Due.due("18: the RING then", x.of(elder, 2), was);
        x.key(elder, key, true);
      }
    }
    Bounds.answersAndLeaves("18: one that is there", 0, Bounds::some, y -> y.key(0, 7, true));
    Bounds.answersAndLeaves("18: one that isn't", 0, Bounds::some, y -> y.key(0, 8, false));
  }

  // ---- 19: "how often KEYS were lent (at most 20). BEYOND (the ELDER itself, too). NONE: it isn't
  // on that RING. FULL."

  static void promise19Beyond() {
    Bounds.range("19: from", 0, -1, Bounds::nothing, (x, from) -> x.lend(from, 1, 7));
    Bounds.range("19: from", 0, 3, Bounds::some, (x, from) -> x.lend(from, from == 0 ? 1 : 0, 7));
    // Beside the lowest and the highest stands the ELDER itself.
    Bounds.range("19: to", 1, 3, Bounds::some, (x, to) -> x.lend(0, to, 7));
    Bounds.range("19: to", 0, 2, Bounds::some, (x, to) -> x.lend(3, to, 7));
    Bounds.range("19: KEY", 0, 23, Bounds::some, (x, key) -> x.lend(0, 1, key));
    for (int self = 0; self < 4; self++) {
      int one = self;
      Bounds.refused("19: to itself, " + self, Due.BEYOND, Bounds::some, x -> x.lend(one, one, 7));
    }
  }

  static void promise19None() {
    Bounds.refused("19: not on the RING", Due.NONE, Bounds::some, x -> x.lend(0, 1, 8));
    Bounds.refused("19: on the RING of the other", Due.NONE, Bounds::some, x -> x.lend(1, 0, 7));
    Bounds.refused("19: it was lent, but not given", Due.NONE, Bounds::some,
        x -> x.lend(2, 0, 7));
  }

  static void promise19Full() {
    ElderChest x = withKeys(1);
    x.elder(0);
    for (int i = 1; i <= 20; i++) {
      Due.due("19: how often", x.lend(0, 1, 0), i);
    }
    Due.due("19: a 21st", x.lend(0, 1, 0), Due.FULL);
    Bounds.refused("19: a 21st", Due.FULL, Bounds::someAndTwentyLends, y -> y.lend(0, 3, 7));
  }

  static void promise19Order() {
    Bounds.refused("19: BEYOND ahead of NONE", Due.BEYOND, Bounds::some, x -> x.lend(0, 0, 8));
    Bounds.refused("19: BEYOND ahead of NONE, KEY", Due.BEYOND, Bounds::some,
        x -> x.lend(0, 1, 24));
    Bounds.refused("19: BEYOND ahead of FULL", Due.BEYOND, Bounds::someAndTwentyLends,
        x -> x.lend(0, 0, 7));
    Bounds.refused("19: BEYOND ahead of FULL, to", Due.BEYOND, Bounds::someAndTwentyLends,
        x -> x.lend(0, 4, 7));
    Bounds.refused("19: NONE ahead of FULL", Due.NONE, Bounds::someAndTwentyLends,
        x -> x.lend(0, 1, 8));
  }

  static void promise19ThoseGoneToo() {
    ElderChest x = Bounds.made(Bounds::some);
    Due.due("19: to one GONE", x.lend(0, 1, 7), 2);
    Due.due("19: from one GONE", x.lend(1, 0, 9), 3);
    Due.due("19: lent to the one GONE", x.of(1, 4), 1);
  }

  // ---- 20: "1 if a SET OPENS a HANGING, else 0. BEYOND: the HANGING, others than ELDERS."

  static void promise20HangingAndSet() {
    Bounds.range("20: h", 0, -1, Bounds::nothing, (x, h) -> x.opens(h, 0));
    Bounds.range("20: h", 0, 4, Bounds::some, (x, h) -> x.opens(h, 15));
    Bounds.range("20: h", 0, 39, Bounds::someAndFortyHangings, (x, h) -> x.opens(h, 0));
    Bounds.range("20: SET", 0, 15, Bounds::some, (x, set) -> x.opens(4, set));
    Bounds.refused("20: both", Due.BEYOND, Bounds::some, x -> x.opens(5, 16));
    Bounds.answersAndLeaves("20: it opens", 1, Bounds::some, x -> x.opens(4, 1));
    Bounds.answersAndLeaves("20: it doesn't", 0, Bounds::some, x -> x.opens(4, 14));
  }

  static void promise20EmptySet() {
    ElderChest x = Bounds.made(Bounds::someAndFortyHangings);
    for (int h = 0; h < 40; h++) {
      Due.due("20: the empty SET for " + h, x.opens(h, 0), 0);
    }
  }

  // ---- 21: "KEYS that a SET has in the end. BEYOND."

  static void promise21Set() {
    Bounds.range("21: SET", 0, 0, Bounds::nothing, ElderChest::had);
    Bounds.range("21: SET", 0, 15, Bounds::some, ElderChest::had);
    Bounds.range("21: SET", 0, 1023, Bounds::ten, ElderChest::had);
    Bounds.answersAndLeaves("21: the empty SET", 0, Bounds::some, x -> x.had(0));
    Bounds.answersAndLeaves("21: with a KEY from a BOX", 1 << 7 | 1 << 23 | 1 << 11, Bounds::some,
        x -> x.had(1));
    Bounds.answersAndLeaves("21: one GONE", 0, Bounds::some, x -> x.had(2));
    Due.due("21: all KEYS", withKeys(0xFFFFFF).had(1), 0xFFFFFF);
  }

  // ---- 22: "The ROUND in which a BOX opens for a SET (0: in none). BEYOND: the HANGING, the SET.
  // KIND: it is no BOX."

  static void promise22HangingAndSet() {
    Bounds.range("22: h", 0, -1, Bounds::nothing, (x, h) -> x.round(h, 0));
    Bounds.range("22: h", 0, 4, Bounds::some, (x, h) -> x.round(h, 15));
    Bounds.range("22: SET", 0, 15, Bounds::some, (x, set) -> x.round(4, set));
    Bounds.answersAndLeaves("22: the first ROUND", 1, Bounds::some, x -> x.round(4, 1));
    Bounds.answersAndLeaves("22: in none", 0, Bounds::some, x -> x.round(4, 14));
  }

  static void promise22Kind() {
    for (int h = 0; h < 4; h++) {
      int one = h;
      Bounds.refused("22: round(" + h + ", 1)", Due.KIND, Bounds::some, x -> x.round(one, 1));
      Bounds.refused("22: round(" + h + ", 0)", Due.KIND, Bounds::some, x -> x.round(one, 0));
    }
  }

  static void promise22BeyondAheadOfKind() {
    for (int set : new int[] {16, -1, MIN, MAX}) {
      Bounds.refused("22: SET " + set, Due.BEYOND, Bounds::some, x -> x.round(0, set));
    }
  }
}
