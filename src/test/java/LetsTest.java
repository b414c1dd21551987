/** Promises 23 to 30: lets, shut, wrongly, lacks, same, bears, need, could. */
final class LetsTest {
  public static void main(String[] args) {
    promise23Lets();
    promise24Shut();
    promise25Wrongly();
    promise26Lacks();
    promise27Same();
    promise28Bears();
    promise29Need();
    promise29Few();
    promise30Could();
    Due.end("LetsTest");
  }

  /** ELDERS a, b, c with KEYS 0, 1, 2; LOCKS 0, 1, 2; CHAIN 3 of 1 and 2; ROW 4 of 0 and 3. */
  private static ElderChest three() {
    ElderChest x = Due.withElders(1, 2, 3);
    for (int i = 0; i < 3; i++) {
      x.lock(i, false);
      x.key(i, i, true);
    }
    x.chain(1, 2, false);
    x.chain(0, 3, true);
    return x;
  }

  private static void promise23Lets() {
    ElderChest x = three();
    setsAre("23: a LOCK", x, 1, false, 2);
    setsAre("23: a CHAIN", x, 3, false, 2, 4);
    setsAre("23: a and b or c", x, 4, false, 3, 5);
    x.gone(1, true);
    setsAre("23: b is GONE", x, 4, false, 5);
    x.gone(0, true);
    setsAre("23: a is GONE, too", x, 4, false);
    x.gone(0, false);
    x.gone(1, false);
    x.key(1, 0, true);
    setsAre("23: b has the KEY of a", x, 4, false, 2, 5);
    x.box(0, 1);
    setsAre("23: a gets the KEY of b from a BOX", x, 4, false, 1, 2);
    wrongCalls("23", x, false);
    setsAre("23: a HANGING that came since", x, x.lock(2, false), false, 4);
    setsAre("23: a CHAIN that came since", x, x.chain(0, 2, true), false, 5, 6);
    setsAre("23: a BOX that came since", x, x.box(2, 20), false, 4);
  }

  private static void promise24Shut() {
    ElderChest x = three();
    setsAre("24: a LOCK", x, 1, true, 5);
    setsAre("24: a CHAIN", x, 3, true, 1);
    setsAre("24: a and b or c", x, 4, true, 1, 6);
    x.gone(1, true);
    setsAre("24: b is GONE", x, 4, true, 1, 4);
    x.gone(0, true);
    setsAre("24: a is GONE, too", x, 4, true, 4);
    x.gone(2, true);
    setsAre("24: ALL are none", x, 4, true, 0);
    x.gone(0, false);
    x.gone(1, false);
    x.gone(2, false);
    wrongCalls("24", x, true);
  }

  private static void setsAre(String call, ElderChest x, int h, boolean shut, long... sets) {
    Due.due(call + ", how many", shut ? x.shut(h, -1) : x.lets(h, -1), sets.length);
    for (int i = 0; i < sets.length; i++) {
      Due.due(call + ", " + i, shut ? x.shut(h, i) : x.lets(h, i), sets[i]);
    }
    int behind = sets.length;
    Due.due(call + ", behind", shut ? x.shut(h, behind) : x.lets(h, behind), Due.NONE);
  }

  private static void wrongCalls(String promise, ElderChest x, boolean shut) {
    int many = x.look(4);
    int[][] wrong = {{-1, 0}, {many, -1}, {0, -2}, {0, Integer.MIN_VALUE}, {-1, -2},
        {Integer.MAX_VALUE, 0}};
    for (int[] w : wrong) {
      Due.due(promise + ": of " + w[0] + ", " + w[1],
          shut ? x.shut(w[0], w[1]) : x.lets(w[0], w[1]), Due.BEYOND);
    }
    Due.due(promise + ": far behind",
        shut ? x.shut(0, Integer.MAX_VALUE) : x.lets(0, Integer.MAX_VALUE), Due.NONE);
    Due.due(promise + ": needs no TEXT", x.status(4), 0);
  }

  private static void promise25Wrongly() {
    ElderChest x = three();
    Due.due("25: BEYOND ahead of STATE", x.wrongly(5), Due.BEYOND);
    Due.due("25: BEYOND, -1", x.wrongly(-1), Due.BEYOND);
    Due.due("25: STATE", x.wrongly(4), Due.STATE);
    Due.read(x, "may all [0 1]");
    Due.due("25: a and c may not", x.wrongly(4), 5);
    Due.due("25: b or c", x.wrongly(3), 2);
    Due.due("25: a alone", x.wrongly(0), 1);
    Due.read(x, "may all [0] and any [1 2]");
    x.use(1);
    Due.due("25: NONE", x.wrongly(4), Due.NONE);
    x.use(0);
    x.gone(2, true);
    Due.due("25: NONE while c is GONE", x.wrongly(4), Due.NONE);
    x.gone(2, false);
    Due.read(x, "may any everyone never all everyone");
    x.use(2);
    Due.due("25: ALL alone", x.wrongly(4), 7);
  }

  private static void promise26Lacks() {
    ElderChest x = three();
    Due.due("26: BEYOND ahead of STATE", x.lacks(5), Due.BEYOND);
    Due.due("26: BEYOND, -1", x.lacks(-1), Due.BEYOND);
    Due.due("26: STATE", x.lacks(4), Due.STATE);
    Due.read(x, "may least 2 of everyone");
    Due.due("26: b and c may", x.lacks(4), 6);
    Due.due("26: a and c don't open b's", x.lacks(1), 5);
    Due.due("26: NONE", x.lacks(3), Due.NONE);
    x.gone(1, true);
    Due.due("26: NONE while b is GONE", x.lacks(4), Due.NONE);
    Due.read(x, "may weigh 0");
    x.use(1);
    Due.due("26: the empty SET", x.lacks(4), 0);
    x.gone(1, false);
    Due.read(x, "may all everyone");
    x.use(2);
    int never = x.lock(20, false);
    Due.due("26: ALL alone", x.lacks(never), 7);
  }

  private static void promise27Same() {
    ElderChest x = three();
    x.chain(0, 1, true);
    x.chain(0, 2, true);
    Due.due("27: same(4, 7)", x.same(4, x.chain(5, 6, false)), 1);
    Due.due("27: same(7, 4)", x.same(7, 4), 1);
    Due.due("27: same(4, 5)", x.same(4, 5), 0);
    Due.due("27: same(4, 4)", x.same(4, 4), 1);
    x.gone(2, true);
    Due.due("27: while c is GONE", x.same(4, 5), 1);
    x.gone(2, false);
    Due.due("27: c is back", x.same(4, 5), 0);
    int never = x.lock(20, false);
    Due.due("27: two that nobody opens", x.same(never, x.lock(21, false)), 1);
    x.key(0, 20, true);
    Due.due("27: one that somebody opens", x.same(never, never + 1), 0);
    x.gone(2, true);
    x.key(0, 20, false);
    int both = x.chain(0, 1, true);
    Due.due("27: ALL alone OPEN one of them", x.same(both, never), 0);
    int many = x.look(4);
    int[][] wrong = {{-1, 0}, {0, -1}, {many, 0}, {0, many}, {many, many},
        {Integer.MIN_VALUE, Integer.MAX_VALUE}};
    for (int[] w : wrong) {
      Due.due("27: same(" + w[0] + ", " + w[1] + ")", x.same(w[0], w[1]), Due.BEYOND);
    }
  }

  private static void promise28Bears() {
    ElderChest x = three();
    long[][] due = {{1, 0, 0, 0}, {1, 0, 0, 0}, {1, 0, 0, 0}, {1, 1, 0, 0}, {1, 0, 0, 0}};
    for (int h = 0; h < 5; h++) {
      for (int n = 0; n < 4; n++) {
        Due.due("28: bears(" + h + ", " + n + ")", x.bears(h, n), due[h][n]);
      }
    }
    int[][] wrong = {{-1, 0}, {5, 0}, {0, -1}, {0, 4}, {0, Integer.MIN_VALUE},
        {0, Integer.MAX_VALUE}, {Integer.MAX_VALUE, 1}};
    for (int[] w : wrong) {
      Due.due("28: bears(" + w[0] + ", " + w[1] + ")", x.bears(w[0], w[1]), Due.BEYOND);
    }
    x.gone(1, true);
    Due.due("28: while b is GONE", x.bears(3, 0), 1);
    Due.due("28: while b is GONE, another one", x.bears(3, 1), 0);
    Due.due("28: n is more than ALL", x.bears(3, 3), Due.BEYOND);
    x.gone(0, true);
    x.gone(2, true);
    Due.due("28: ALL are none", x.bears(3, 0), 0);
    Due.due("28: ALL are none, n 1", x.bears(3, 1), Due.BEYOND);
  }

  private static void promise29Need() {
    ElderChest x = three();
    Due.due("29: none has all", x.need(4, 0), 3);
    Due.due("29: a lacks the least", x.need(4, 1), 2);
    Due.due("29: b lacks", x.need(4, 2), 1);
    Due.due("29: a and c lack none", x.need(4, 5), 0);
    Due.due("29: an OLD one, two KEYS will do", x.need(x.lock(6, true), 0), 1 << 6);
    Due.due("29: an OLD one with the last KEY", x.need(x.lock(23, true), 6), 1);
    int[][] wrong = {{-1, 0}, {x.look(4), 0}, {0, 8}, {0, -1}, {Integer.MAX_VALUE, 0}};
    for (int[] w : wrong) {
      Due.due("29: need(" + w[0] + ", " + w[1] + ")", x.need(w[0], w[1]), Due.BEYOND);
    }
    int far = x.lock(20, false);
    x.chain(0, 1, true);
    x.box(x.look(4) - 1, 20);
    Due.due("29: one KEY is fewer than two", x.need(far, 0), 1 << 20);
    Due.due("29: a opens the BOX with KEY 1", x.need(far, 1), 1 << 1);
  }

  private static void promise29Few() {
    ElderChest x = Due.withElders(1);
    x.lock(21, false);
    x.lock(22, false);
    x.lock(23, false);
    x.lock(0, false);
    int three = x.chain(x.chain(0, 1, true), 2, true);
    int four = x.chain(three, 3, true);
    Due.due("29: three", x.need(three, 0), 7 << 21);
    Due.due("29: four are too many", x.need(four, 0), Due.NONE);
    Due.due("29: four are too many for {0}", x.need(four, 1), Due.NONE);
    x.key(0, 22, true);
    Due.due("29: four less one", x.need(four, 1), 5 << 21 | 1);
    x.lock(1, false);
    x.box(x.look(4) - 1, 23);
    Due.due("29: KEY 1 for 23, by a BOX", x.need(four, 1), 1 << 21 | 3);
    ElderChest y = new ElderChest();
    y.lock(4, false);
    y.lock(9, false);
    y.lock(5, false);
    y.lock(8, false);
    y.chain(0, 1, true);
    y.chain(2, 3, true);
    Due.due("29: of like ones the least as bits", y.need(y.chain(4, 5, false), 0), 1 << 5 | 1 << 8);
  }

  private static void promise30Could() {
    ElderChest x = three();
    Due.due("30: nothing was lent", x.could(4), 0);
    Due.due("30: a CHAIN", x.could(3), 6);
    x.lend(1, 0, 1);
    Due.due("30: a had the KEY of b once", x.could(4), 1);
    x.key(1, 1, false);
    Due.due("30: b has it no more", x.could(4), 1);
    x.key(0, 0, false);
    Due.due("30: a has its own no more", x.could(4), 0);
    x.key(0, 0, true);
    x.lend(0, 2, 0);
    Due.due("30: c had the KEY of a once", x.could(4), 5);
    x.gone(0, true);
    Due.due("30: a is GONE", x.could(4), 4);
    Due.due("30: lent KEYS don't open now", x.opens(4, 4), 0);
    x.gone(0, false);
    x.lock(2, false);
    x.box(5, 10);
    x.lock(10, false);
    x.key(0, 2, true);
    x.lend(0, 1, 2);
    Due.due("30: a lent KEY opens a BOX", x.could(7), 7);
    Due.due("30: BEYOND", x.could(8), Due.BEYOND);
    Due.due("30: BEYOND, -1", x.could(-1), Due.BEYOND);
    Due.due("30: BEYOND, MAX", x.could(Integer.MAX_VALUE), Due.BEYOND);
  }
}
