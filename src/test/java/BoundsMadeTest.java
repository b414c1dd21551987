/** Promises 31 to 36 at their bounds: what is made from a text, spare keys, the reader. */
final class BoundsMadeTest {
  private static final int MIN = Integer.MIN_VALUE;
  private static final int MAX = Integer.MAX_VALUE;

  public static void main(String[] args) {
    Due.runAll(BoundsMadeTest.class);
  }

  private static void someWith(ElderChest x, String text) {
    Bounds.some(x);
    Due.read(x, text);
    x.use(2);
  }

  private static void locks(ElderChest x, int many) {
    for (int i = 0; i < many; i++) {
      x.lock(i % 24, false);
    }
  }

  // ---- 31: "STATE. KIND: THE TEXT doesn't RISE. NONE: there are none of MOST. FULL: more than 24 of
  // them, or HANGINGS have no room."

  static void promise31State() {
    Bounds.refused("31: no TEXT", Due.STATE, Bounds::nothing, ElderChest::build);
    Bounds.refused("31: no TEXT and no room", Due.STATE, x -> {
      Bounds.ten(x);
      locks(x, 40);
    }, ElderChest::build);
  }

  static void promise31Kind() {
    Bounds.refused("31: it falls", Due.KIND, x -> someWith(x, "may not any everyone"),
        ElderChest::build);
    Bounds.refused("31: it falls at the end", Due.KIND,
        x -> someWith(x, "may any everyone never all everyone"), ElderChest::build);
    Bounds.refused("31: KIND ahead of FULL", Due.KIND, x -> {
      someWith(x, "may not all everyone");
      locks(x, 35);
    }, ElderChest::build);
  }

  static void promise31None() {
    Bounds.refused("31: all MAY", Due.NONE, x -> someWith(x, "may weigh 0"), ElderChest::build);
    Bounds.refused("31: NONE ahead of FULL", Due.NONE, x -> {
      someWith(x, "may weigh 0");
      locks(x, 35);
    }, ElderChest::build);
  }

  static void promise31One() {
    ElderChest x = Bounds.withText(10, "may any everyone");
    Due.due("31: the empty SET alone", x.build(), 0);
    Due.due("31: one LOCK and no ROW", x.look(4), 1);
    for (int elder = 0; elder < 10; elder++) {
      Due.due("31: KEY 0 for each", x.of(elder, 2), 1);
    }
    ElderChest y = Bounds.withText(10, "may weigh 1");
    Due.due("31: ALL alone", y.build(), 0);
    Due.due("31: a KEY for none", y.heavy(2), 0);
    ElderChest none = Bounds.withText(0, "may any everyone");
    Due.due("31: without ELDERS", none.build(), 0);
    Due.due("31: its KEY", none.hanging(0, 1), 0);
  }

  /** Room for 1, 3, 5 .. HANGINGS, and one less. */
  static void promise31Room() {
    String[] texts = {"may any everyone", "may any [0] and any [1]", "may least 2 of [0 1 2]"};
    for (int i = 0; i < texts.length; i++) {
      int many = 2 * i + 1;
      String text = texts[i];
      ElderChest x = Bounds.withText(3, text);
      locks(x, 40 - many);
      Due.due("31: just room for " + many, x.build(), 39);
      Bounds.refused("31: room for one less than " + many, Due.FULL, y -> {
        Bounds.eldersAndText(y, 3, text);
        y.key(2, 5, true);
        locks(y, 41 - many);
      }, ElderChest::build);
    }
  }

  /** Of 20 of MOST 39 HANGINGS are made: that is the most for which there is room. */
  static void promise31TwentyAndMore() {
    ElderChest x = Bounds.withText(6, "may least 4 of everyone");
    Due.due("31: twenty of MOST", x.most(-1), 20);
    Due.due("31: 39 HANGINGS", x.build(), 38);
    Due.due("31: they are there", x.look(4), 39);
    Due.due("31: the last LOCK's KEY", x.hanging(19, 1), 19);
    Due.due("31: the first ROW", x.hanging(20, 2), 0);
    Due.due("31: of LOCK 1", x.hanging(20, 3), 1);
    Due.due("31: the last ROW", x.hanging(38, 2), 37);
    Due.due("31: of LOCK 19", x.hanging(38, 3), 19);
    Due.due("31: as it MAY", x.lacks(38), Due.NONE);
    Due.due("31: and no more", x.wrongly(38), Due.NONE);
    ElderChest y = Bounds.withText(6, "may least 4 of everyone");
    y.lock(0, false);
    Due.due("31: with one HANGING there is just room", y.build(), 39);
    Bounds.refused("31: with two there is none", Due.FULL, z -> {
      Bounds.eldersAndText(z, 6, "may least 4 of everyone");
      locks(z, 2);
    }, ElderChest::build);
    String[] more = {"may least 2 of [0 1 2] and least 2 of [3 4 5] and any [6]",
        "may least 3 of [0 1 2 3 4 5] and least 2 of [6 7 8 9 0 1]",
        "may least 3 of everyone", "may least 6 of everyone"};
    for (String text : more) {
      ElderChest many = Bounds.withText(10, text);
      Due.due("31: " + text, many.build(), many.most(-1) > 20 ? Due.FULL : 2 * many.most(-1) - 2);
    }
  }

  static void promise31AllRingsAreEmptyFirst() {
    ElderChest x = Bounds.made(Bounds::some);
    Due.due("31: build()", x.build(), 9);
    // MOST are {0}, {2}, {3}; ELDER 1 is GONE.
    long[] rings = {6, 0, 5, 3};
    for (int elder = 0; elder < 4; elder++) {
      Due.due("31: RING of " + elder, x.of(elder, 2), rings[elder]);
    }
    Due.due("31: what was lent stays", x.of(2, 4), 1);
    Due.due("31: what hung stays", x.hanging(4, 1), 11);
  }

  // ---- 32: "STATE. SIZE: ALL are none, or more than 4. KIND: .. NONE: each SET MAY, or none does."

  static void promise32State() {
    Bounds.refused("32: no TEXT", Due.STATE, x -> x.elder(1), ElderChest::fewest);
    Bounds.refused("32: STATE ahead of SIZE, none", Due.STATE, Bounds::nothing,
        ElderChest::fewest);
    Bounds.refused("32: STATE ahead of SIZE, ten", Due.STATE, Bounds::ten, ElderChest::fewest);
  }

  static void promise32Size() {
    for (int many = 0; many <= 10; many++) {
      ElderChest x = Bounds.withText(many, "may all everyone");
      Due.due("32: " + many + " ELDERS", x.fewest(), many == 0 || many > 4 ? Due.SIZE : many);
    }
    Bounds.refused("32: none", Due.SIZE, x -> Due.read(x, "may any everyone"), ElderChest::fewest);
    Bounds.refused("32: nine of ten", Due.SIZE, Bounds::someAndTenElders, ElderChest::fewest);
    ElderChest y = Bounds.withText(10, "may all everyone");
    for (int i = 0; i < 10; i++) {
      int left = 10 - i;
      Due.due("32: " + left + " are left", y.fewest(), left > 4 ? Due.SIZE : left);
      y.gone(i, true);
    }
    Due.due("32: none is left", y.fewest(), Due.SIZE);
  }

  static void promise32SizeAheadOfKindAndNone() {
    for (int many : new int[] {0, 5}) {
      for (String text : new String[] {"may weigh 0", "may weigh 1", "may not any everyone"}) {
        Due.due("32: SIZE of " + many + " by " + text, Bounds.withText(many, text).fewest(),
            Due.SIZE);
      }
    }
  }

  static void promise32Kind() {
    Bounds.refused("32: it falls", Due.KIND, x -> someWith(x, "may not any everyone"),
        ElderChest::fewest);
    Due.due("32: it falls at the end",
        Bounds.withText(4, "may any everyone never all everyone").fewest(), Due.KIND);
    Due.due("32: one who MAY not", Bounds.withText(1, "may not all [0]").fewest(), Due.KIND);
  }

  static void promise32None() {
    Bounds.refused("32: each MAY", Due.NONE, x -> someWith(x, "may weigh 0"), ElderChest::fewest);
    Bounds.refused("32: none does", Due.NONE, x -> someWith(x, "may weigh 99"), ElderChest::fewest);
    for (int many = 1; many <= 4; many++) {
      Due.due("32: each of " + many, Bounds.withText(many, "may weigh 0").fewest(), Due.NONE);
      Due.due("32: none of " + many, Bounds.withText(many, "may weigh 1").fewest(), Due.NONE);
    }
  }

  static void promise32OneAndMost() {
    Bounds.answersAndLeaves("32: two of three", 5, Bounds::some, ElderChest::fewest);
    for (int elder = 0; elder < 4; elder++) {
      Due.due("32: one LOCK", Bounds.withText(4, "may any [" + elder + "]").fewest(), 1);
    }
    String[] texts = {"may least 2 of everyone", "may least 3 of everyone",
        "may all [0 1] or all [1 2] or all [2 3] or all [3 0]",
        "may all [0 1] or all [0 2] or all [0 3] or all [1 2 3]",
        "may all [0 1] or all [0 2] or all [1 2] or all [0 3] or all [1 3]",
        "may all [0 1 2] or all [0 1 3] or all [2 3]"};
    long[] due = {8, 8, 4, 7, 6, 6};
    for (int i = 0; i < texts.length; i++) {
      Due.due("32: " + texts[i], Bounds.withText(4, texts[i]).fewest(), due[i]);
    }
  }

  /** Each TEXT that RISES for four, of which there are 166, as PlainChest tells it. */
  static void promise32EachThatRises() {
    int many = 0;
    for (int truth = 1; truth < 0xFFFF; truth++) {
      String text = rises(truth) ? textOf(truth) : "";
      if (!text.isEmpty()) {
        many++;
        PlainChest plain = new PlainChest();
        for (int i = 0; i < 4; i++) {
          plain.elder(0);
        }
        for (int i = 0; i < text.length(); i++) {
          plain.feed(text.charAt(i), 1);
        }
        plain.text();
        Due.due("32: " + text, Bounds.withText(4, text).fewest(), plain.fewest());
      }
    }
    Due.due("32: so many RISE", many, 166);
  }

  private static boolean rises(int truth) {
    for (int set = 0; set < 16; set++) {
      for (int elder = 0; elder < 4; elder++) {
        if ((truth >> set & 1) > (truth >> (set | 1 << elder) & 1)) {
          return false;
        }
      }
    }
    return true;
  }

  /** "may all [0 1] or all [2]", with the least SETS for which it is to hold. */
  private static String textOf(int truth) {
    StringBuilder text = new StringBuilder();
    for (int set = 1; set < 16; set++) {
      boolean least = (truth >> set & 1) == 1;
      for (int elder = 0; elder < 4; elder++) {
        least &= (set >> elder & 1) == 0 || (truth >> (set & ~(1 << elder)) & 1) == 0;
      }
      if (least) {
        text.append(text.length() == 0 ? "may all[" : "or all[");
        for (int elder = 0; elder < 4; elder++) {
          text.append((set >> elder & 1) == 1 ? elder + " " : "");
        }
        text.append("]");
      }
    }
    return text.toString();
  }

  // ---- 33: "1 if a KEY on a RING is spare .., else 0. BEYOND. NONE: it isn't there."

  static void promise33Beyond() {
    Bounds.range("33: h", 0, -1, Bounds::nothing, (x, h) -> x.spare(h, 0, 7));
    Bounds.range("33: h", 0, 4, Bounds::some, (x, h) -> x.spare(h, 0, 7));
    Bounds.range("33: h", 0, 39, Bounds::someAndFortyHangings, (x, h) -> x.spare(h, 0, 7));
    Bounds.range("33: ELDER", 0, 3, Bounds::some, (x, elder) -> x.spare(0, elder, 7));
    Bounds.range("33: ELDER", 0, 9, Bounds::someAndTenElders, (x, elder) -> x.spare(0, elder, 7));
    Bounds.range("33: KEY", 0, 23, Bounds::some, (x, key) -> x.spare(0, 0, key));
  }

  static void promise33None() {
    Bounds.refused("33: not there", Due.NONE, Bounds::some, x -> x.spare(0, 0, 8));
    Bounds.refused("33: on another RING", Due.NONE, Bounds::some, x -> x.spare(0, 2, 23));
    Bounds.refused("33: lent, but not there", Due.NONE, Bounds::some, x -> x.spare(0, 2, 7));
    Bounds.refused("33: BEYOND ahead of NONE, h", Due.BEYOND, Bounds::some, x -> x.spare(5, 0, 8));
    Bounds.refused("33: BEYOND ahead of NONE, ELDER", Due.BEYOND, Bounds::some,
        x -> x.spare(0, 4, 8));
  }

  static void promise33SpareOrNot() {
    Bounds.answersAndLeaves("33: needed", 0, Bounds::some, x -> x.spare(0, 0, 7));
    Bounds.answersAndLeaves("33: spare", 1, Bounds::some, x -> x.spare(0, 0, 23));
    Bounds.answersAndLeaves("33: of one GONE", 1, Bounds::some, x -> x.spare(0, 1, 9));
    Bounds.answersAndLeaves("33: one of two will do", 1, Bounds::some, x -> x.spare(2, 0, 7));
  }

  /** One SET alone that opens no more is enough: ALL, or one ELDER. */
  static void promise33ASetAlone() {
    ElderChest x = Bounds.made(Bounds::ten);
    locks(x, 10);
    for (int i = 0; i < 10; i++) {
      x.key(i, i, true);
    }
    int row = x.chain(0, 1, true);
    for (int i = 2; i < 10; i++) {
      row = x.chain(row, i, true);
    }
    for (int i = 0; i < 10; i++) {
      Due.due("33: ALL need it", x.spare(row, i, i), 0);
      Due.due("33: one needs it", x.spare(i, i, i), 0);
      Due.due("33: others don't", x.spare((i + 1) % 10, i, i), 1);
    }
    x.gone(9, true);
    Due.due("33: without one GONE none opens it", x.spare(row, 0, 0), 1);
  }

  // ---- 34: "KEYS that are spare .. go from RINGS one by one, by ELDERS (those GONE, too), then by
  // KEYS: how many. BEYOND."

  static void promise34Hanging() {
    Bounds.range("34: h", 0, -1, Bounds::nothing, ElderChest::thin);
    Bounds.range("34: h", 0, 4, Bounds::some, ElderChest::thin);
    Bounds.range("34: h", 0, 39, Bounds::someAndFortyHangings, ElderChest::thin);
  }

  static void promise34NoneAndAll() {
    Bounds.answersAndLeaves("34: no KEYS", 0, x -> {
      Bounds.ten(x);
      x.lock(0, false);
    }, x -> x.thin(0));
    ElderChest x = Bounds.made(Bounds::ten);
    x.lock(0, false);
    for (int elder = 0; elder < 10; elder++) {
      x.key(elder, 0, true);
    }
    Due.due("34: all are needed", x.thin(0), 0);
    x.lock(23, false);
    Due.due("34: none is", x.thin(1), 10);
    Due.due("34: none is left", x.heavy(2), 0);
    for (int key = 0; key < 24; key++) {
      x.key(9, key, true);
    }
    Due.due("34: all of a RING but the last", x.thin(1), 23);
    Due.due("34: that stays", x.of(9, 2), 1 << 23);
  }

  static void promise34ByEldersThenByKeys() {
    ElderChest x = Due.withElders(0, 0);
    x.lock(0, true);
    Due.giveKeys(x, 0, 0, 1);
    Due.due("34: KEY 0 or KEY 1 opens it", x.thin(0), 1);
    Due.due("34: the greater one stays", x.of(0, 2), 2);
    ElderChest y = keysByBoxes();
    Due.due("34: KEYS of all go", y.thin(2), 3);
    long[] left = {0, 1 << 1, 1 << 2};
    for (int elder = 0; elder < 3; elder++) {
      Due.due("34: RING left to " + elder, y.of(elder, 2), left[elder]);
    }
    ElderChest z = Bounds.made(Bounds::some);
    Due.due("34: of one GONE, too", z.thin(0), 3);
    long[] rings = {1 << 7, 0, 0, 0};
    for (int elder = 0; elder < 4; elder++) {
      Due.due("34: RING of " + elder, z.of(elder, 2), rings[elder]);
    }
  }

  /** LOCK 2 opens with KEY 2, which lies in a BOX that KEY 0 opens, and in one that KEY 1 opens. */
  private static ElderChest keysByBoxes() {
    ElderChest x = Due.withElders(0, 0, 0);
    x.lock(0, false);
    x.lock(1, false);
    x.lock(2, false);
    x.box(0, 2);
    x.box(1, 2);
    Due.giveKeys(x, 1, 0, 1);
    Due.giveKeys(x, 2, 0, 1, 2);
    return x;
  }

  // ---- 35: "what 0 .., 1 whose it is (the least), 2 .. BEYOND. NONE: ALL are none."

  static void promise35What() {
    Bounds.range("35: what", 0, 2, Bounds::some, ElderChest::heavy);
    Bounds.range("35: what", 0, 2, Bounds::ten, ElderChest::heavy);
  }

  static void promise35None() {
    for (int what = 0; what < 3; what++) {
      int asked = what;
      Bounds.refused("35: no ELDERS", Due.NONE, Bounds::nothing, x -> x.heavy(asked));
      Bounds.refused("35: all GONE", Due.NONE, x -> {
        Bounds.some(x);
        x.gone(0, true);
        x.gone(2, true);
        x.gone(3, true);
      }, x -> x.heavy(asked));
    }
    for (int what : new int[] {-1, 3, MIN, MAX}) {
      Bounds.refused("35: BEYOND ahead of NONE", Due.BEYOND, Bounds::nothing, x -> x.heavy(what));
    }
  }

  static void promise35EmptyAndFullRings() {
    ElderChest x = Bounds.made(Bounds::ten);
    Due.due("35: no KEYS", x.heavy(0), 0);
    Due.due("35: the least of like ones", x.heavy(1), 0);
    Due.due("35: no KEYS together", x.heavy(2), 0);
    x.gone(0, true);
    Due.due("35: the least of ALL", x.heavy(1), 1);
    for (int elder = 0; elder < 10; elder++) {
      for (int key = 0; key < 24; key++) {
        x.key(elder, key, true);
      }
    }
    Due.due("35: all KEYS", x.heavy(0), 24);
    Due.due("35: together, without one GONE", x.heavy(2), 9 * 24);
    x.gone(0, false);
    Due.due("35: with all", x.heavy(2), 240);
    Due.due("35: whose", x.heavy(1), 0);
    for (int elder = 0; elder < 9; elder++) {
      x.key(elder, 23, false);
    }
    Due.due("35: the last one's", x.heavy(1), 9);
    Bounds.answersAndLeaves("35: an answer", 2, Bounds::some, y -> y.heavy(0));
  }

  /** Whoever of ten is GONE, its RING doesn't count. */
  static void promise35OfAllAlone() {
    for (int elder = 0; elder < 10; elder++) {
      ElderChest x = Bounds.made(Bounds::ten);
      Due.giveKeys(x, elder, 0, 1, 2);
      Due.giveKeys(x, (elder + 3) % 10, 20, 21);
      Due.giveKeys(x, (elder + 7) % 10, 22);
      Due.due("35: whose", x.heavy(1), elder);
      Due.due("35: KEYS on it", x.heavy(0), 3);
      Due.due("35: together", x.heavy(2), 6);
      x.gone(elder, true);
      Due.due("35: whose, of ALL", x.heavy(1), (elder + 3) % 10);
      Due.due("35: KEYS on it, of ALL", x.heavy(0), 2);
      Due.due("35: together, of ALL", x.heavy(2), 3);
    }
  }

  // ---- 36: "0 if they are right; else 1 more than how many of them, from the first on, are. BEYOND:
  // no such sheet. MISSING. BEYOND: the HANGING."

  static void promise36Beyond() {
    Bounds.range("36: sheet", 0, 3, Bounds::some, (x, s) -> x.judge(s, 0));
    Bounds.range("36: h", 0, 4, Bounds::some, (x, h) -> x.judge(0, h));
    Bounds.range("36: h", 0, 39, Bounds::someAndFortyHangings, (x, h) -> x.judge(2, h));
    Bounds.range("36: h", 0, -1, x -> x.sheet(0, 8, 0), (x, h) -> x.judge(0, h));
  }

  static void promise36Missing() {
    Bounds.refused("36: MISSING", Due.MISSING, Bounds::some, x -> x.judge(3, 0));
    for (int s = 0; s < 4; s++) {
      int one = s;
      Bounds.refused("36: at first", Due.MISSING, x -> x.lock(0, false), x -> x.judge(one, 0));
    }
    for (int h : new int[] {-1, 5, MIN, MAX}) {
      Bounds.refused("36: MISSING ahead of BEYOND", Due.MISSING, Bounds::some,
          x -> x.judge(3, h));
      Bounds.refused("36: no such sheet, no HANGING", Due.BEYOND, Bounds::some,
          x -> x.judge(4, h));
    }
  }

  /** CHAIN 2 of some() LETS {0} and {2}, told as 1 and 4. */
  private static long judged(int bits, long... numbers) {
    ElderChest x = Bounds.made(Bounds::some);
    x.sheet(0, bits, numbers.length);
    for (int i = 0; i < numbers.length; i++) {
      x.write(0, i, numbers[i]);
    }
    return x.judge(0, 2);
  }

  static void promise36RightOnes() {
    for (int bits : new int[] {8, 16, 64}) {
      Due.due("36: right", judged(bits, 1, 4), 0);
      Due.due("36: empty", judged(bits), 1);
      Due.due("36: one, right", judged(bits, 1), 2);
      Due.due("36: one, wrong", judged(bits, 4), 1);
      Due.due("36: two, the first is right", judged(bits, 1, 5), 2);
      Due.due("36: two, the second is right", judged(bits, 2, 4), 1);
      Due.due("36: two, none is", judged(bits, 0, 0), 1);
      Due.due("36: not by numbers", judged(bits, 4, 1), 1);
      Due.due("36: one too many", judged(bits, 1, 4, 5), 3);
      Due.due("36: a 0 too many", judged(bits, 1, 4, 0), 3);
      Due.due("36: one twice", judged(bits, 1, 1, 4), 2);
      Due.due("36: a wrong one ahead", judged(bits, 0, 1, 4), 1);
      Due.due("36: the lowest bits count", judged(bits, 1 + (3L << bits % 64), 4), bits == 64 ? 1 : 0);
    }
    Due.due("36: 64 bits are all looked at", judged(64, 1, 4 + (1L << 32)), 2);
    Due.due("36: below 0", judged(64, -1, 4), 1);
    Bounds.answersAndLeaves("36: an answer", 2, Bounds::some, x -> x.judge(0, 0));
  }

  static void promise36NoneAndMany() {
    ElderChest x = Bounds.made(Bounds::ten);
    x.lock(0, false);
    x.sheet(0, 16, 0);
    Due.due("36: none, and none is told", x.judge(0, 0), 0);
    x.sheet(0, 16, 40);
    Due.due("36: none, and 40 are told", x.judge(0, 0), 1);
    for (int i = 0; i < 10; i++) {
      x.key(i, 0, true);
      x.write(0, i, 1 << i);
    }
    Due.due("36: ten, and 40 are told", x.judge(0, 0), 11);
    x.sheet(1, 16, 10);
    x.copy(0, 0, 1, 0, 10);
    Due.due("36: ten, and ten are told", x.judge(1, 0), 0);
    x.sheet(1, 16, 9);
    x.copy(0, 0, 1, 0, 9);
    Due.due("36: ten, and nine are told", x.judge(1, 0), 10);
  }

  /** More LETS than a sheet has room for: 40 that are right are still too few. */
  static void promise36MoreThanASheet() {
    ElderChest x = Bounds.made(Bounds::ten);
    for (int i = 0; i < 10; i++) {
      x.lock(i, false);
      x.key(i, i, true);
    }
    // Two of the first so many: two of those ahead, or one of those ahead and this one.
    int one = 0;
    int two = x.chain(0, 1, true);
    for (int i = 1; i < 9; i++) {
      one = x.chain(one, i, false);
      two = x.chain(two, x.chain(one, i + 1, true), false);
    }
    Due.due("36: two of ten", x.lets(two, -1), 45);
    x.sheet(0, 64, 40);
    int at = 0;
    for (int set = 0; set < 1024 && at < 40; set++) {
      if (Integer.bitCount(set) == 2) {
        x.write(0, at, set);
        at++;
      }
    }
    Due.due("36: 40 of 45", x.judge(0, two), 41);
    x.write(0, 39, 0);
    Due.due("36: 39 of 45", x.judge(0, two), 40);
  }
}
