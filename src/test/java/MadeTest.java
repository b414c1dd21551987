/** Promises 31 to 36: build, fewest, spare, thin, heavy, judge. */
final class MadeTest {
  public static void main(String[] args) {
    promise31Build();
    promise31Findings();
    promise32Fewest();
    promise32Findings();
    promise33Spare();
    promise34Thin();
    promise34OneByOne();
    promise35Heavy();
    promise36Judge();
    Due.end("MadeTest");
  }

  private static void promise31Build() {
    ElderChest x = Due.withElders(1, 1, 1, 1);
    x.lock(9, false);
    Due.giveKeys(x, 0, 9, 20);
    Due.giveKeys(x, 3, 7);
    x.gone(3, true);
    Due.read(x, "may least 2 of everyone");
    // MOST are {0}, {1}, {2}.
    Due.due("31: build()", x.build(), 5);
    Due.due("31: HANGINGS", x.look(4), 6);
    long[][] made = {{1, 0}, {1, 1}, {1, 2}};
    for (int i = 0; i < 3; i++) {
      Due.due("31: LOCK " + i, x.hanging(1 + i, 0), made[i][0]);
      Due.due("31: its KEY", x.hanging(1 + i, 1), made[i][1]);
    }
    Due.due("31: ROW", x.hanging(4, 0), 3);
    Due.due("31: of the first LOCK", x.hanging(4, 2), 1);
    Due.due("31: and the next", x.hanging(4, 3), 2);
    Due.due("31: ROW of what was made", x.hanging(5, 2), 4);
    Due.due("31: and the next LOCK", x.hanging(5, 3), 3);
    long[] rings = {6, 5, 3, 0};
    for (int elder = 0; elder < 4; elder++) {
      Due.due("31: RING of " + elder, x.of(elder, 2), rings[elder]);
    }
    Due.due("31: it lets what MAY", x.wrongly(5), Due.NONE);
    Due.due("31: and nothing else", x.lacks(5), Due.NONE);
    Due.read(x, "may any everyone");
    x.use(1);
    Due.due("31: one LOCK alone", x.build(), 6);
    Due.due("31: no ROW", x.look(4), 7);
    Due.due("31: RINGS were emptied", x.of(0, 2), 1);
    Due.read(x, "may weigh 99");
    x.use(2);
    Due.due("31: a LOCK for which nobody has the KEY", x.build(), 7);
    Due.due("31: all RINGS are empty", x.heavy(2), 0);
  }

  private static void promise31Findings() {
    ElderChest x = Due.withElders(1, 1, 1, 1, 1, 1, 1, 1, 1, 1);
    x.key(0, 3, true);
    Due.due("31: STATE", x.build(), Due.STATE);
    Due.read(x, "may any [0] never any [1]");
    Due.due("31: KIND", x.build(), Due.KIND);
    Due.read(x, "may weigh 0");
    Due.read(x, "may not any everyone");
    x.use(2);
    Due.due("31: KIND, the empty SET MAY alone", x.build(), Due.KIND);
    x.use(1);
    Due.due("31: NONE", x.build(), Due.NONE);
    Due.read(x, "may least 2 of [0 1 2 3 4 5 6] and least 3 of [7 8 9]");
    x.use(3);
    // 7 SETS with one of 0 to 6 and all of 7 to 9, 3 with all of 0 to 6 and two of 7 to 9.
    Due.due("31: ten of MOST", x.most(-1), 10);
    Due.read(x, "may least 3 of [0 1 2 3 4 5]");
    x.use(4);
    Due.due("31: fifteen of MOST", x.most(-1), 15);
    for (int i = 0; i < 12; i++) {
      x.lock(0, false);
    }
    Due.due("31: 29 more are too many", x.build(), Due.FULL);
    Due.due("31: a finding empties no RING", x.of(0, 2), 8);
    Due.due("31: a finding makes no HANGING", x.look(4), 12);
    Due.read(x, "may least 3 of everyone");
    x.use(5);
    Due.due("31: more than 24 of them", x.most(-1), 45);
    Due.due("31: FULL with more than 24", x.build(), Due.FULL);
    x.use(0);
    Due.due("31: KIND ahead of FULL", x.build(), Due.KIND);
    ElderChest y = Due.withElders(1, 1, 1, 1, 1, 1);
    Due.read(y, "may least 3 of everyone");
    for (int i = 0; i < 11; i++) {
      y.lock(0, false);
    }
    Due.due("31: 29 more just fit", y.build(), 39);
    Due.due("31: there are 40", y.look(4), 40);
    Due.due("31: no room at all", y.build(), Due.FULL);
  }

  private static void promise32Fewest() {
    fewestIs("may all [0]", 4, 1);
    fewestIs("may all everyone", 1, 1);
    fewestIs("may all everyone", 4, 4);
    fewestIs("may any everyone", 4, 4);
    fewestIs("may all [0 2]", 4, 2);
    fewestIs("may all [0] and any [1 2]", 3, 3);
    fewestIs("may least 2 of everyone", 3, 5);
    fewestIs("may least 2 of [1 2 3]", 4, 5);
    fewestIs("may least 2 of everyone", 4, 8);
    fewestIs("may least 3 of everyone", 4, 8);
    fewestIs("may all [0 1] or all [2 3]", 4, 4);
    fewestIs("may all [0 1] or all [1 2] or all [2 3]", 4, 5);
    fewestIs("may all [0 1] or all [2 3] or all [0 2] or all [1 3]", 4, 4);
    fewestIs("may least 2 of [0 1 2] or all [0 3]", 4, 6);
    fewestIs("may least 2 of [0 1 2] and any [3 0]", 4, 6);
    ElderChest x = Due.withElders(1, 1, 1, 1, 1, 1);
    Due.read(x, "may least 2 of everyone");
    x.gone(0, true);
    Due.due("32: SIZE, five", x.fewest(), Due.SIZE);
    x.gone(4, true);
    Due.due("32: four of six", x.fewest(), 8);
    x.gone(2, true);
    Due.due("32: three of six", x.fewest(), 5);
    x.gone(1, true);
    Due.due("32: two of six", x.fewest(), 2);
    x.gone(3, true);
    Due.due("32: one of six", x.fewest(), Due.NONE);
    Due.due("32: nothing is hung", x.look(4), 0);
  }

  private static void fewestIs(String text, int many, long locks) {
    ElderChest x = new ElderChest();
    for (int i = 0; i < many; i++) {
      x.elder(1);
    }
    Due.read(x, text);
    Due.due("32: fewest() for " + text + " of " + many, x.fewest(), locks);
    Due.due("32: once more", x.fewest(), locks);
  }

  private static void promise32Findings() {
    ElderChest x = new ElderChest();
    Due.due("32: STATE ahead of SIZE", x.fewest(), Due.STATE);
    Due.read(x, "may any everyone never all everyone");
    Due.due("32: SIZE, ALL are none", x.fewest(), Due.SIZE);
    x.elder(1);
    Due.due("32: NONE, none MAY", x.fewest(), Due.NONE);
    x.elder(1);
    Due.due("32: KIND", x.fewest(), Due.KIND);
    Due.read(x, "may least 0 of everyone");
    x.use(1);
    Due.due("32: NONE, each MAY", x.fewest(), Due.NONE);
    Due.read(x, "may weigh 99");
    x.use(2);
    Due.due("32: NONE, none MAY", x.fewest(), Due.NONE);
    Due.read(x, "may not any everyone");
    x.use(3);
    Due.due("32: KIND, the empty SET MAY alone", x.fewest(), Due.KIND);
    x.elder(1);
    x.elder(1);
    x.elder(1);
    Due.due("32: SIZE ahead of KIND", x.fewest(), Due.SIZE);
  }

  /** LOCK 0 of KEY 0, LOCK 1 of KEY 1, ROW 2; a has both KEYS, b has KEY 0 and 5, c has KEY 1. */
  private static ElderChest ringed() {
    ElderChest x = Due.withElders(1, 1, 1);
    x.lock(0, false);
    x.lock(1, false);
    x.chain(0, 1, true);
    Due.giveKeys(x, 0, 0, 1);
    Due.giveKeys(x, 1, 0, 5);
    Due.giveKeys(x, 2, 1);
    return x;
  }

  private static void promise33Spare() {
    ElderChest x = ringed();
    Due.due("33: a opens alone", x.spare(2, 0, 0), 0);
    Due.due("33: with KEY 1, too", x.spare(2, 0, 1), 0);
    Due.due("33: b has it for b and c", x.spare(2, 1, 0), 0);
    Due.due("33: there is no LOCK for it", x.spare(2, 1, 5), 1);
    Due.due("33: KEY 1 for LOCK 0", x.spare(0, 0, 1), 1);
    Due.due("33: none was taken", x.of(0, 2), 3);
    x.gone(0, true);
    Due.due("33: of one who is GONE", x.spare(2, 0, 0), 1);
    Due.due("33: the others need theirs", x.spare(2, 2, 1), 0);
    x.gone(1, true);
    Due.due("33: then c's is spare", x.spare(2, 2, 1), 1);
    Due.due("33: but for LOCK 1", x.spare(1, 2, 1), 0);
    Due.due("33: NONE", x.spare(2, 0, 5), Due.NONE);
    Due.due("33: NONE, of one GONE", x.spare(2, 1, 1), Due.NONE);
    int[][] wrong = {{-1, 0, 0}, {3, 0, 0}, {2, -1, 0}, {2, 3, 0}, {2, 0, -1}, {2, 0, 24},
        {2, 0, 32}, {Integer.MAX_VALUE, Integer.MAX_VALUE, Integer.MAX_VALUE}};
    for (int[] w : wrong) {
      Due.due("33: spare(" + w[0] + ", " + w[1] + ", " + w[2] + ")", x.spare(w[0], w[1], w[2]),
          Due.BEYOND);
    }
    ElderChest y = Due.withElders(1);
    y.lock(0, false);
    y.box(0, 1);
    y.lock(1, false);
    Due.giveKeys(y, 0, 0, 1);
    Due.due("33: KEY 1 comes from the BOX", y.spare(2, 0, 1), 1);
    Due.due("33: KEY 1 is there without KEY 0", y.spare(2, 0, 0), 1);
    Due.due("33: KEY 0 opens the BOX", y.spare(1, 0, 0), 0);
  }

  private static void promise34Thin() {
    ElderChest x = ringed();
    Due.due("34: one is spare", x.thin(2), 1);
    Due.due("34: KEY 5 of b", x.of(1, 2), 1);
    Due.due("34: a keeps both", x.of(0, 2), 3);
    Due.due("34: none is spare then", x.thin(2), 0);
    Due.due("34: for LOCK 1", x.thin(1), 2);
    Due.due("34: a keeps KEY 1", x.of(0, 2), 2);
    Due.due("34: b keeps none", x.of(1, 2), 0);
    Due.due("34: c keeps KEY 1", x.of(2, 2), 2);
    x.gone(0, true);
    Due.due("34: those GONE, too", x.thin(1), 1);
    Due.due("34: a keeps none", x.of(0, 2), 0);
    Due.due("34: BEYOND", x.thin(3), Due.BEYOND);
    Due.due("34: BEYOND, -1", x.thin(-1), Due.BEYOND);
    Due.due("34: BEYOND, MIN", x.thin(Integer.MIN_VALUE), Due.BEYOND);
  }

  private static void promise34OneByOne() {
    // KEY 0 or KEY 1 will do: the first goes, then the other one isn't spare.
    ElderChest x = Due.withElders(1, 1);
    x.lock(0, true);
    Due.giveKeys(x, 0, 0, 1);
    Due.giveKeys(x, 1, 0, 1);
    Due.due("34: one of each", x.thin(0), 2);
    Due.due("34: the lesser went first", x.of(0, 2), 2);
    Due.due("34: from the other RING, too", x.of(1, 2), 2);
    // Two KEYS of one LOCK in a ROW: who loses one makes the other's count.
    ElderChest y = Due.withElders(1, 1, 1);
    y.lock(0, false);
    y.lock(1, false);
    y.box(0, 1);
    y.chain(0, 1, true);
    Due.giveKeys(y, 0, 0, 1);
    Due.giveKeys(y, 1, 1);
    Due.giveKeys(y, 2, 0, 1, 2);
    Due.due("34: BOXES give KEY 1", y.thin(3), 4);
    Due.due("34: a", y.of(0, 2), 1);
    Due.due("34: b", y.of(1, 2), 0);
    Due.due("34: c", y.of(2, 2), 1);
    ElderChest z = Due.withElders(1, 1);
    z.lock(3, false);
    z.lock(4, false);
    z.chain(0, 1, false);
    z.box(0, 4);
    z.box(1, 3);
    Due.giveKeys(z, 0, 3, 4);
    Due.giveKeys(z, 1, 3, 4);
    Due.due("34: each KEY stands for the other one", z.thin(2), 2);
    Due.due("34: the greater stays on the first RING", z.of(0, 2), 1 << 4);
    Due.due("34: and on the second", z.of(1, 2), 1 << 4);
  }

  private static void promise35Heavy() {
    ElderChest x = new ElderChest();
    Due.due("35: NONE, no ELDERS", x.heavy(0), Due.NONE);
    Due.due("35: BEYOND ahead of NONE", x.heavy(3), Due.BEYOND);
    Due.due("35: BEYOND ahead of NONE, -1", x.heavy(-1), Due.BEYOND);
    for (int i = 0; i < 4; i++) {
      x.elder(0);
    }
    heavyIs(x, 0, 0, 0);
    Due.giveKeys(x, 2, 0, 1);
    Due.giveKeys(x, 1, 20, 21);
    Due.giveKeys(x, 3, 0, 1, 2);
    heavyIs(x, 3, 3, 7);
    x.gone(3, true);
    heavyIs(x, 2, 1, 4);
    x.gone(1, true);
    heavyIs(x, 2, 2, 2);
    x.gone(2, true);
    heavyIs(x, 0, 0, 0);
    x.gone(0, true);
    Due.due("35: NONE, all are GONE", x.heavy(2), Due.NONE);
    Due.due("35: BEYOND, MAX", x.heavy(Integer.MAX_VALUE), Due.BEYOND);
    x.gone(2, false);
    heavyIs(x, 2, 2, 2);
  }

  private static void heavyIs(ElderChest x, long keys, long whose, long together) {
    Due.due("35: KEYS on the heaviest", x.heavy(0), keys);
    Due.due("35: whose it is", x.heavy(1), whose);
    Due.due("35: KEYS together", x.heavy(2), together);
  }

  private static void promise36Judge() {
    ElderChest x = ringed();
    // LETS of 2 are {0}, {1, 2}.
    Due.due("36: BEYOND, sheet", x.judge(4, 2), Due.BEYOND);
    Due.due("36: BEYOND, sheet -1", x.judge(-1, 2), Due.BEYOND);
    Due.due("36: MISSING", x.judge(0, 2), Due.MISSING);
    Due.due("36: MISSING ahead of BEYOND", x.judge(0, 9), Due.MISSING);
    x.sheet(0, 16, 2);
    Due.due("36: BEYOND, HANGING", x.judge(0, 3), Due.BEYOND);
    Due.due("36: BEYOND, HANGING -1", x.judge(0, -1), Due.BEYOND);
    Due.due("36: none is right", x.judge(0, 2), 1);
    x.write(0, 0, 1);
    Due.due("36: one is right", x.judge(0, 2), 2);
    x.write(0, 1, 6);
    Due.due("36: all are", x.judge(0, 2), 0);
    x.write(0, 0, 2);
    Due.due("36: the first is wrong", x.judge(0, 2), 1);
    x.sheet(1, 8, 1);
    x.write(1, 0, 1);
    Due.due("36: too short", x.judge(1, 2), 2);
    x.sheet(2, 64, 3);
    x.write(2, 0, 1);
    x.write(2, 1, 6);
    Due.due("36: too long", x.judge(2, 2), 3);
    x.sheet(2, 64, 2);
    x.write(2, 0, 1L << 32 | 1);
    x.write(2, 1, 6);
    Due.due("36: all 64 bits count", x.judge(2, 2), 1);
    x.sheet(3, 64, 0);
    Due.due("36: empty, too short", x.judge(3, 2), 1);
    int never = x.lock(20, false);
    Due.due("36: empty, and right", x.judge(3, never), 0);
    x.sheet(3, 64, 1);
    Due.due("36: a 0 is the empty SET", x.judge(3, never), 1);
  }
}
