/** Promises 23 to 30 and Terms, section 3, at their bounds: what a hanging lets. */
final class BoundsLetsTest {
  private static final int MIN = Integer.MIN_VALUE;
  private static final int MAX = Integer.MAX_VALUE;

  public static void main(String[] args) {
    Due.runAll(BoundsLetsTest.class);
  }

  /** Ten ELDERS, each with a KEY of its own, their LOCKS 0 to 9, and a ROW of the first five. */
  private static int fiveOfTen(ElderChest x) {
    Bounds.ten(x);
    for (int i = 0; i < 10; i++) {
      x.key(i, i, true);
      x.lock(i, false);
    }
    int row = x.chain(0, 1, true);
    for (int i = 2; i < 5; i++) {
      row = x.chain(row, i, true);
    }
    return row;
  }

  private static ElderChest lets(int elders, int... keysOfLocks) {
    ElderChest x = new ElderChest();
    for (int i = 0; i < elders; i++) {
      x.elder(0);
      x.key(i, i, true);
    }
    for (int key : keysOfLocks) {
      x.lock(key, false);
    }
    return x;
  }

  // ---- Terms 3

  /** "SETS here are those of ALL alone (the empty one, too)." */
  static void terms3SetsOfAllAlone() {
    ElderChest x = lets(3, 0, 1, 2);
    x.chain(0, 1, false);
    x.gone(0, true);
    Due.due("Terms 3: LETS without one GONE", x.lets(3, -1), 1);
    Due.due("Terms 3: that is {1}", x.lets(3, 0), 2);
    Due.due("Terms 3: SHUT without one GONE", x.shut(3, -1), 1);
    Due.due("Terms 3: that is {2}", x.shut(3, 0), 4);
    Due.read(x, "may any [0 1]");
    Due.due("Terms 3: LEAST without one GONE", x.least(0), 2);
    Due.due("Terms 3: MOST without one GONE", x.most(0), 4);
    Due.due("Terms 3: wrongly", x.wrongly(0), Due.NONE);
    Due.due("Terms 3: lacks", x.lacks(0), 2);
    Due.due("Terms 3: nobody of ALL opens either", x.same(0, x.lock(20, false)), 1);
  }

  static void terms3TheEmptySetToo() {
    ElderChest x = lets(2, 0);
    x.gone(0, true);
    x.gone(1, true);
    Due.due("Terms 3: LETS of none", x.lets(0, -1), 0);
    Due.due("Terms 3: SHUT of none", x.shut(0, -1), 1);
    Due.due("Terms 3: it is the empty SET", x.shut(0, 0), 0);
    Due.read(x, "may weigh 0");
    Due.due("Terms 3: LEAST of none", x.least(-1), 1);
    Due.due("Terms 3: it is the empty SET", x.least(0), 0);
    Due.due("Terms 3: MOST of none", x.most(-1), 0);
    Due.due("Terms 3: lacks", x.lacks(0), 0);
    Due.due("Terms 3: wrongly", x.wrongly(0), Due.NONE);
    Due.due("Terms 3: all of them are like", x.same(0, 0), 1);
    Due.due("Terms 3: bears", x.bears(0, 0), 0);
    Due.due("Terms 3: could", x.could(0), 0);
  }

  /** "no part (without one or more) does": a part with two less counts, while that with one doesn't. */
  static void terms3LeastByParts() {
    ElderChest x = Bounds.withText(3, "may least 2 of everyone or not any everyone never any [2]");
    // The empty SET MAY and {0 1}, but {0} and {1} MAY not.
    Due.due("Terms 3, 11: one", x.least(-1), 1);
    Due.due("Terms 3, 11: the empty SET", x.least(0), 0);
    ElderChest y = Bounds.withText(4, "may any [0] never least 2 of everyone and not all everyone");
    // {0} MAY and ALL, but none between them.
    Due.due("Terms 3, 11: between them none", y.least(-1), 1);
    Due.due("Terms 3, 11: {0}", y.least(0), 1);
  }

  /** "while each with one or more besides MAY": one with two more counts. */
  static void terms3MostByMore() {
    ElderChest x = Bounds.withText(3, "may any everyone never all everyone");
    // {} MAY not, each with one MAY, but ALL MAY not.
    Due.due("Terms 3, 12: one", x.most(-1), 1);
    Due.due("Terms 3, 12: ALL", x.most(0), 7);
    ElderChest y = Bounds.withText(3, "may least 1 of everyone never all [0 1] and not any [2]");
    Due.due("Terms 3, 12: {0 1} alone, not {}", y.most(-1), 1);
    Due.due("Terms 3, 12: it is {0 1}", y.most(0), 3);
  }

  /** Each ELDER alone: it is the only one of LETS and LEAST, all others are the only one of SHUT. */
  static void terms3OneElder() {
    for (int elder = 0; elder < 10; elder++) {
      ElderChest x = lets(10, elder);
      Due.read(x, "may any [" + elder + "]");
      long[] answers = {x.lets(0, -1), x.lets(0, 0), x.shut(0, -1), x.shut(0, 0), x.least(-1),
          x.least(0), x.most(-1), x.most(0)};
      long one = 1 << elder;
      long[] due = {1, one, 1, 1023 - one, 1, one, 1, 1023 - one};
      for (int i = 0; i < due.length; i++) {
        Due.due("Terms 3: of ELDER " + elder + ", answer " + i, answers[i], due[i]);
      }
    }
  }

  /** "THE TEXT RISES, if no SET that MAY has one with one besides that MAY not." */
  static void terms3Rises() {
    String[] rising = {"may weigh 0", "may weigh 99", "may least 2 of everyone", "may not not any [0]",
        "may all everyone", "may weigh 0 never weigh 99"};
    for (String text : rising) {
      Due.due("Terms 3, 10: " + text, Bounds.withText(4, text).more(), Due.NONE);
    }
    String[] falling = {"may not any everyone", "may any [0] never any [3]",
        "may any everyone never all everyone", "may not all everyone"};
    int[] due = {0, 16 + 3, 16 * 7 + 3, 16 * 7 + 3};
    for (int i = 0; i < falling.length; i++) {
      Due.due("Terms 3, 10: " + falling[i], Bounds.withText(4, falling[i]).more(), due[i]);
    }
  }

  // ---- 23: "LETS of a HANGING: the i-th; i -1: how many. BEYOND: the HANGING, i below -1. NONE"

  static void promise23Hanging() {
    for (int i : new int[] {-1, 0}) {
      Bounds.range("23: h", 0, -1, Bounds::nothing, (x, h) -> x.lets(h, i));
      Bounds.range("23: h", 0, 4, Bounds::some, (x, h) -> x.lets(h, i));
      Bounds.range("23: h", 0, 39, Bounds::someAndFortyHangings, (x, h) -> x.lets(h, i));
    }
    Bounds.refused("23: BEYOND, not NONE", Due.BEYOND, Bounds::some, x -> x.lets(5, MAX));
  }

  static void promise23Index() {
    // CHAIN 2 opens for {0} with KEYS 7 and 23, and for {2} with KEY 0.
    long[] due = {2, 1, 4};
    for (int i = -1; i < 2; i++) {
      int index = i;
      Bounds.answersAndLeaves("23: lets(2, " + i + ")", due[i + 1], Bounds::some,
          x -> x.lets(2, index));
    }
    for (int i : new int[] {2, 3, 252, 1024, MAX}) {
      Bounds.refused("23: lets(2, " + i + ")", Due.NONE, Bounds::some, x -> x.lets(2, i));
    }
    for (int i : new int[] {-2, -3, MIN}) {
      Bounds.refused("23: lets(2, " + i + ")", Due.BEYOND, Bounds::some, x -> x.lets(2, i));
    }
  }

  static void promise23NoneAndAll() {
    ElderChest x = lets(10, 20);
    Due.due("23: nobody, how many", x.lets(0, -1), 0);
    Due.due("23: nobody, the first", x.lets(0, 0), Due.NONE);
    ElderChest y = new ElderChest();
    int row = fiveOfTen(y);
    Due.due("23: five alone", y.lets(row, -1), 1);
    Due.due("23: they are it", y.lets(row, 0), 31);
    for (int i = 5; i < 10; i++) {
      row = y.chain(row, i, true);
    }
    Due.due("23: ALL alone", y.lets(row, 0), 1023);
    Due.due("23: no other", y.lets(row, 1), Due.NONE);
    int chain = y.chain(0, 1, false);
    for (int i = 2; i < 10; i++) {
      chain = y.chain(chain, i, false);
    }
    Due.due("23: each one", y.lets(chain, -1), 10);
    for (int i = 0; i < 10; i++) {
      Due.due("23: by numbers", y.lets(chain, i), 1 << i);
    }
  }

  // ---- 24: "SHUT of a HANGING, likewise."

  static void promise24Hanging() {
    for (int i : new int[] {-1, 0}) {
      Bounds.range("24: h", 0, -1, Bounds::nothing, (x, h) -> x.shut(h, i));
      Bounds.range("24: h", 0, 4, Bounds::some, (x, h) -> x.shut(h, i));
      Bounds.range("24: h", 0, 39, Bounds::someAndFortyHangings, (x, h) -> x.shut(h, i));
    }
    Bounds.refused("24: BEYOND, not NONE", Due.BEYOND, Bounds::some, x -> x.shut(5, MAX));
  }

  static void promise24Index() {
    // CHAIN 2 stays shut for {3} alone, who has no KEY.
    long[] due = {1, 8};
    for (int i = -1; i < 1; i++) {
      int index = i;
      Bounds.answersAndLeaves("24: shut(2, " + i + ")", due[i + 1], Bounds::some,
          x -> x.shut(2, index));
    }
    for (int i : new int[] {1, 2, 252, 1024, MAX}) {
      Bounds.refused("24: shut(2, " + i + ")", Due.NONE, Bounds::some, x -> x.shut(2, i));
    }
    for (int i : new int[] {-2, -3, MIN}) {
      Bounds.refused("24: shut(2, " + i + ")", Due.BEYOND, Bounds::some, x -> x.shut(2, i));
    }
  }

  static void promise24NoneAndAll() {
    ElderChest x = lets(10, 20);
    Due.due("24: nobody opens it, how many", x.shut(0, -1), 1);
    Due.due("24: nobody opens it", x.shut(0, 0), 1023);
    ElderChest y = new ElderChest();
    int row = fiveOfTen(y);
    long[] shut = {992 + 15, 992 + 23, 992 + 27, 992 + 29, 992 + 30};
    Due.due("24: five without one, how many", y.shut(row, -1), 5);
    for (int i = 0; i < 5; i++) {
      Due.due("24: by numbers", y.shut(row, i), shut[i]);
    }
  }

  // ---- 25, 26: "BEYOND. STATE. NONE."

  static void promise25Hanging() {
    Bounds.range("25: h", 0, -1, Bounds::nothing, ElderChest::wrongly);
    Bounds.range("25: h", 0, 4, Bounds::some, ElderChest::wrongly);
    Bounds.range("25: h", 0, 39, Bounds::someAndFortyHangings, ElderChest::wrongly);
  }

  static void promise25State() {
    Bounds.refused("25: no TEXT", Due.STATE, x -> x.lock(0, false), x -> x.wrongly(0));
    Bounds.refused("25: BEYOND ahead of STATE", Due.BEYOND, x -> x.lock(0, false),
        x -> x.wrongly(1));
    Bounds.refused("25: BEYOND ahead of STATE, -1", Due.BEYOND, x -> x.lock(0, false),
        x -> x.wrongly(-1));
  }

  static void promise25FirstLastAndNone() {
    ElderChest x = lets(10, 9, 20);
    Due.read(x, "may weigh 1");
    Due.due("25: the first of many", x.wrongly(0), 512);
    Due.due("25: nobody opens it", x.wrongly(1), Due.NONE);
    Due.read(x, "may all [9] and not all everyone");
    x.use(1);
    Due.due("25: the last that can be", x.wrongly(0), 1023);
    Bounds.answersAndLeaves("25: an answer", 1, Bounds::some, y -> y.wrongly(2));
    Bounds.refused("25: none", Due.NONE, y -> {
      Bounds.some(y);
      Due.read(y, "may weigh 0");
      y.use(2);
    }, y -> y.wrongly(2));
  }

  static void promise26Hanging() {
    Bounds.range("26: h", 0, -1, Bounds::nothing, ElderChest::lacks);
    Bounds.range("26: h", 0, 4, Bounds::some, ElderChest::lacks);
    Bounds.range("26: h", 0, 39, Bounds::someAndFortyHangings, ElderChest::lacks);
  }

  static void promise26State() {
    Bounds.refused("26: no TEXT", Due.STATE, x -> x.lock(0, false), x -> x.lacks(0));
    Bounds.refused("26: BEYOND ahead of STATE", Due.BEYOND, x -> x.lock(0, false), x -> x.lacks(1));
    Bounds.refused("26: BEYOND ahead of STATE, -1", Due.BEYOND, x -> x.lock(0, false),
        x -> x.lacks(-1));
  }

  static void promise26FirstLastAndNone() {
    ElderChest x = lets(10, 9, 20);
    Due.read(x, "may weigh 0");
    Due.due("26: the empty SET", x.lacks(0), 0);
    Due.read(x, "may all everyone");
    x.use(1);
    Due.due("26: the last that can be", x.lacks(1), 1023);
    Due.due("26: none", x.lacks(0), Due.NONE);
    Bounds.answersAndLeaves("26: an answer", 12, Bounds::some, y -> y.lacks(3));
    Bounds.refused("26: none", Due.NONE, Bounds::some, y -> y.lacks(2));
  }

  // ---- 27: "1 if two HANGINGS are OPENED by the same SETS, else 0. BEYOND."

  static void promise27Hangings() {
    Bounds.range("27: a", 0, -1, Bounds::nothing, (x, a) -> x.same(a, 0));
    Bounds.range("27: a", 0, 4, Bounds::some, (x, a) -> x.same(a, 0));
    Bounds.range("27: b", 0, 4, Bounds::some, (x, b) -> x.same(4, b));
    Bounds.range("27: both", 0, 39, Bounds::someAndFortyHangings, (x, h) -> x.same(h, h));
    Bounds.answersAndLeaves("27: like ones", 1, Bounds::some, x -> x.same(0, 3));
    Bounds.answersAndLeaves("27: others", 0, Bounds::some, x -> x.same(0, 2));
  }

  static void promise27FirstAndLastSet() {
    ElderChest x = new ElderChest();
    int row = fiveOfTen(x);
    int longer = x.chain(row, 5, true);
    int all = longer;
    for (int i = 6; i < 10; i++) {
      all = x.chain(all, i, true);
    }
    Due.due("27: one with itself", x.same(all, all), 1);
    Due.due("27: ALL open one of them", x.same(all, x.lock(20, false)), 0);
    Due.due("27: five, and six", x.same(row, longer), 0);
    x.gone(5, true);
    Due.due("27: six are too few", x.same(longer, all), 1);
  }

  // ---- 28: "BEYOND: the HANGING, n below 0 or more than ALL are."

  static void promise28Hanging() {
    Bounds.range("28: h", 0, -1, Bounds::nothing, (x, h) -> x.bears(h, 0));
    Bounds.range("28: h", 0, 4, Bounds::some, (x, h) -> x.bears(h, 0));
    Bounds.range("28: h", 0, 39, Bounds::someAndFortyHangings, (x, h) -> x.bears(h, 3));
  }

  static void promise28HowMany() {
    // Of four one is GONE.
    Bounds.range("28: n", 0, 3, Bounds::some, (x, n) -> x.bears(2, n));
    Bounds.range("28: n of none", 0, 0, x -> x.lock(0, false), (x, n) -> x.bears(0, n));
    Bounds.range("28: n of ten", 0, 10, x -> {
      Bounds.ten(x);
      x.lock(0, false);
    }, (x, n) -> x.bears(0, n));
    Bounds.refused("28: both", Due.BEYOND, Bounds::some, x -> x.bears(5, 4));
  }

  static void promise28WhicheverAreGone() {
    ElderChest x = new ElderChest();
    Bounds.ten(x);
    x.lock(0, false);
    for (int elder = 0; elder < 10; elder++) {
      x.key(elder, 0, true);
    }
    Due.due("28: nine of ten", x.bears(0, 9), 1);
    Due.due("28: all ten", x.bears(0, 10), 0);
    x.key(9, 0, false);
    Due.due("28: nine of ten, the last one left", x.bears(0, 9), 0);
    Due.due("28: eight of ten", x.bears(0, 8), 1);
    x.gone(9, true);
    Due.due("28: eight of nine", x.bears(0, 8), 1);
    Due.due("28: all nine", x.bears(0, 9), 0);
    Due.due("28: ten of nine", x.bears(0, 10), Due.BEYOND);
    Bounds.answersAndLeaves("28: none of ALL", 1, Bounds::some, y -> y.bears(2, 0));
    Bounds.answersAndLeaves("28: two of ALL", 0, Bounds::some, y -> y.bears(2, 2));
  }

  // ---- 29: "The fewest KEYS (3 at most) besides .., as a SET; of like ones the least as bits.
  // BEYOND. NONE: 3 are not enough."

  static void promise29HangingAndSet() {
    Bounds.range("29: h", 0, -1, Bounds::nothing, (x, h) -> x.need(h, 0));
    Bounds.range("29: h", 0, 4, Bounds::some, (x, h) -> x.need(h, 15));
    Bounds.range("29: h", 0, 39, Bounds::someAndFortyHangings, (x, h) -> x.need(h, 0));
    Bounds.range("29: SET", 0, 15, Bounds::some, (x, set) -> x.need(4, set));
    Bounds.refused("29: both", Due.BEYOND, Bounds::some, x -> x.need(5, 16));
  }

  static void promise29NoughtToThree() {
    ElderChest x = lets(1, 20, 21, 22, 23);
    int two = x.chain(0, 3, true);
    int three = x.chain(two, 1, true);
    int four = x.chain(three, 2, true);
    Due.due("29: one", x.need(3, 0), 1 << 23);
    Due.due("29: two", x.need(two, 0), 1 << 20 | 1 << 23);
    Due.due("29: three", x.need(three, 0), 1 << 20 | 1 << 21 | 1 << 23);
    Due.due("29: four", x.need(four, 0), Due.NONE);
    Due.due("29: four for {0}", x.need(four, 1), Due.NONE);
    x.key(0, 21, true);
    Due.due("29: three besides the RING", x.need(four, 1), 1 << 20 | 1 << 22 | 1 << 23);
    for (int key : new int[] {20, 22, 23}) {
      x.key(0, key, true);
    }
    Due.due("29: none besides", x.need(four, 1), 0);
    Bounds.answersAndLeaves("29: an answer", 1 << 7, Bounds::some, y -> y.need(4, 8));
  }

  static void promise29None() {
    Bounds.refused("29: four LOCKS", Due.NONE, BoundsLetsTest::fourLocks, x -> x.need(6, 1));
    Bounds.answersAndLeaves("29: three LOCKS", 7, BoundsLetsTest::fourLocks, x -> x.need(5, 1));
  }

  private static void fourLocks(ElderChest x) {
    x.elder(1);
    for (int key = 0; key < 4; key++) {
      x.lock(key, false);
    }
    x.chain(0, 1, true);
    x.chain(4, 2, true);
    x.chain(5, 3, true);
  }

  static void promise29LeastAsBits() {
    ElderChest x = new ElderChest();
    x.lock(23, true);
    Due.due("29: 0 is less than 23", x.need(0, 0), 1);
    x.lock(22, true);
    Due.due("29: 22 is less than 23", x.need(1, 0), 1 << 22);
    int row = x.chain(0, 1, true);
    Due.due("29: one that opens both", x.need(row, 0), 1 << 23);
    ElderChest y = lets(0, 0, 23, 21, 22);
    int wide = y.chain(0, 1, true);
    int near = y.chain(2, 3, true);
    Due.due("29: two of two, the least", y.need(y.chain(wide, near, false), 0), 3 << 21);
    Due.due("29: one ahead of two", y.need(y.chain(near, 1, false), 0), 1 << 23);
  }

  /** KEYS besides open BOXES, too; one in a BOX needn't be brought. */
  static void promise29ByBoxes() {
    ElderChest x = lets(1, 5, 9);
    x.box(0, 9);
    Due.due("29: the lesser KEY by a BOX", x.need(1, 0), 1 << 5);
    Due.due("29: one for both", x.need(x.chain(0, 1, true), 0), 1 << 5);
    x.key(0, 5, true);
    Due.due("29: from the RING by the BOX", x.need(1, 1), 0);
  }

  // ---- 30: "Those of ALL who alone would OPEN a HANGING, if they had besides each KEY that was
  // ever lent to them. BEYOND."

  static void promise30Hanging() {
    Bounds.range("30: h", 0, -1, Bounds::nothing, ElderChest::could);
    Bounds.range("30: h", 0, 4, Bounds::some, ElderChest::could);
    Bounds.range("30: h", 0, 39, Bounds::someAndFortyHangings, ElderChest::could);
    Bounds.answersAndLeaves("30: one by a KEY that was lent", 5, Bounds::some, x -> x.could(4));
  }

  static void promise30NoneAndAll() {
    ElderChest x = new ElderChest();
    Bounds.ten(x);
    x.lock(23, false);
    Due.due("30: none could", x.could(0), 0);
    x.key(0, 23, true);
    for (int elder = 1; elder < 10; elder++) {
      x.lend(0, elder, 23);
    }
    Due.due("30: all could", x.could(0), 1023);
    x.key(0, 23, false);
    Due.due("30: but for the one who gave it away", x.could(0), 1022);
    x.gone(9, true);
    Due.due("30: but for the one GONE", x.could(0), 510);
    Due.due("30: lent KEYS open nothing else", x.opens(0, 1023), 0);
  }

  static void promise30RefusedLendsDontCount() {
    ElderChest x = Due.withElders(0, 0);
    x.lock(3, false);
    Due.due("30: NONE", x.lend(0, 1, 3), Due.NONE);
    Due.due("30: it wasn't lent", x.could(0), 0);
    x.key(0, 4, true);
    for (int i = 0; i < 20; i++) {
      x.lend(0, 1, 4);
    }
    x.key(0, 3, true);
    Due.due("30: FULL", x.lend(0, 1, 3), Due.FULL);
    Due.due("30: it wasn't lent either", x.could(0), 1);
  }
}
