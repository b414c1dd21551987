/** Promises 1 to 12 at their bounds: a new object, elders, the tape, texts. */
final class BoundsEldersTest {
  private static final int MIN = Integer.MIN_VALUE;
  private static final int MAX = Integer.MAX_VALUE;

  public static void main(String[] args) {
    Due.runAll(BoundsEldersTest.class);
  }

  // ---- 1: "No ELDERS, TEXTS, HANGINGS; THE TAPE is empty, no image is kept."

  static void promise1NoElders() {
    Due.due("1: look(0)", new ElderChest().look(0), 0);
    Due.due("1: look(1)", new ElderChest().look(1), 0);
    Due.due("1: of(0, 0)", new ElderChest().of(0, 0), Due.BEYOND);
    Due.due("1: the first ELDER", new ElderChest().elder(5), 0);
  }

  static void promise1NoTexts() {
    Due.due("1: look(2)", new ElderChest().look(2), 0);
    Due.due("1: look(3)", new ElderChest().look(3), -1);
    Due.due("1: may(0, 0)", new ElderChest().may(0, 0), Due.BEYOND);
    Due.due("1: more()", new ElderChest().more(), Due.STATE);
  }

  static void promise1NoHangings() {
    Due.due("1: look(4)", new ElderChest().look(4), 0);
    Due.due("1: hanging(0, 0)", new ElderChest().hanging(0, 0), Due.BEYOND);
    Due.due("1: look(5)", new ElderChest().look(5), 0);
  }

  static void promise1TapeIsEmpty() {
    Due.due("1: look(6)", new ElderChest().look(6), 0);
    Due.due("1: wipe()", new ElderChest().wipe(), 0);
    Due.due("1: text()", new ElderChest().text(), -1);
  }

  static void promise1NoImage() {
    Due.due("1: undo()", new ElderChest().undo(), Due.NONE);
    Due.due("1: tear()", new ElderChest().tear(), 0);
  }

  // ---- 2: "A new ELDER with a WEIGHT: its number. BEYOND: the WEIGHT. FULL."

  static void promise2Weight() {
    Bounds.range("2: elder", 0, 9, Bounds::nothing, ElderChest::elder);
    Bounds.range("2: elder", 0, 9, Bounds::some, ElderChest::elder);
    ElderChest x = Due.withElders(0, 9);
    Due.due("2: WEIGHT 0", x.of(0, 0), 0);
    Due.due("2: WEIGHT 9", x.of(1, 0), 9);
  }

  static void promise2Full() {
    ElderChest x = new ElderChest();
    for (int i = 0; i < 10; i++) {
      Due.due("2: the ELDER " + i, x.elder(9 - i), i);
    }
    Bounds.refused("2: an eleventh", Due.FULL, Bounds::ten, y -> y.elder(0));
    Bounds.refused("2: an eleventh, 9", Due.FULL, Bounds::someAndTenElders, y -> y.elder(9));
  }

  static void promise2BeyondAheadOfFull() {
    Bounds.refused("2: -1 while FULL", Due.BEYOND, Bounds::ten, x -> x.elder(-1));
    Bounds.refused("2: 10 while FULL", Due.BEYOND, Bounds::ten, x -> x.elder(10));
  }

  // ---- 3: "Of an ELDER: what 0 .. 4. BEYOND."

  static void promise3Elder() {
    Bounds.range("3: of", 0, -1, Bounds::nothing, (x, elder) -> x.of(elder, 0));
    Bounds.range("3: of", 0, 3, Bounds::some, (x, elder) -> x.of(elder, 4));
    Bounds.range("3: of", 0, 9, Bounds::ten, (x, elder) -> x.of(elder, 0));
  }

  static void promise3What() {
    Bounds.range("3: what", 0, 4, Bounds::some, (x, what) -> x.of(0, what));
    Bounds.range("3: what", 0, 4, Bounds::ten, (x, what) -> x.of(9, what));
    Bounds.refused("3: both", Due.BEYOND, Bounds::some, x -> x.of(4, 5));
  }

  static void promise3EmptyAndFullRing() {
    ElderChest x = Due.withElders(1);
    Due.due("3: an empty RING", x.of(0, 2), 0);
    Due.due("3: its KEYS", x.of(0, 3), 0);
    for (int key = 0; key < 24; key++) {
      x.key(0, key, true);
    }
    Due.due("3: a full RING", x.of(0, 2), 0xFFFFFF);
    Due.due("3: its KEYS", x.of(0, 3), 24);
    Due.due("3: KEYS lent to it, none", x.of(0, 4), 0);
  }

  static void promise3LentAsOftenAsCanBe() {
    ElderChest x = Due.withElders(1, 1);
    x.key(0, 0, true);
    for (int i = 1; i <= 20; i++) {
      x.lend(0, 1, 0);
      Due.due("3: lent to 1", x.of(1, 4), i);
    }
    x.lend(0, 1, 0);
    Due.due("3: a refused lend isn't told", x.of(1, 4), 20);
  }

  // ---- 4: "An ELDER is GONE (on), or back: 1 if that is new, else 0. BEYOND."

  static void promise4Elder() {
    for (boolean on : new boolean[] {true, false}) {
      Bounds.range("4: gone", 0, -1, Bounds::nothing, (x, elder) -> x.gone(elder, on));
      Bounds.range("4: gone", 0, 3, Bounds::some, (x, elder) -> x.gone(elder, on));
      Bounds.range("4: gone", 0, 9, Bounds::ten, (x, elder) -> x.gone(elder, on));
    }
  }

  static void promise4NewOrNot() {
    ElderChest x = Bounds.made(Bounds::ten);
    for (int elder : new int[] {0, 9}) {
      Due.due("4: back, who never went", x.gone(elder, false), 0);
      Due.due("4: GONE", x.gone(elder, true), 1);
      Due.due("4: it is told", x.of(elder, 1), 1);
      Due.due("4: GONE again", x.gone(elder, true), 0);
      Due.due("4: it is told still", x.of(elder, 1), 1);
      Due.due("4: back", x.gone(elder, false), 1);
      Due.due("4: back again", x.gone(elder, false), 0);
      Due.due("4: that is told, too", x.of(elder, 1), 0);
    }
    Bounds.answersAndLeaves("4: who is GONE goes", 0, Bounds::some, y -> y.gone(1, true));
    Bounds.answersAndLeaves("4: who is there comes", 0, Bounds::some, y -> y.gone(0, false));
  }

  static void promise4AllMayGo() {
    ElderChest x = Bounds.made(Bounds::ten);
    for (int elder = 0; elder < 10; elder++) {
      Due.due("4: how many are ALL", x.look(1), 10 - elder);
      x.gone(elder, true);
    }
    Due.due("4: ALL are none", x.look(1), 0);
    Due.due("4: ELDERS are ten", x.look(0), 10);
  }

  static void promise4KeepsWhatItHas() {
    ElderChest x = Bounds.made(Bounds::some);
    Due.due("4: RING of one GONE", x.of(1, 2), 1 << 9);
    Due.due("4: WEIGHT of one GONE", x.of(1, 0), 2);
    x.gone(1, false);
    Due.due("4: RING of one who is back", x.of(1, 2), 1 << 9);
  }

  // ---- 5: "THE TAPE gets the n lowest bytes .., the highest of these first (n 1 to 4): how many it
  // has. BEYOND: n. FULL."

  static void promise5HowMany() {
    Bounds.range("5: n", 1, 4, Bounds::nothing, (x, n) -> x.feed(0x20202020, n));
    Bounds.range("5: n", 1, 4, Bounds::some, (x, n) -> x.feed(-1, n));
  }

  static void promise5HighestOfTheLowestFirst() {
    int[] numbers = {0x12345631, 0x12345632, 0x39393031, MIN | 0x303035, -1 << 8 | '7'};
    int[] bytes = {1, 1, 2, 3, 1};
    int[] due = {1, 2, 1, 5, 7};
    for (int i = 0; i < numbers.length; i++) {
      ElderChest x = Due.withElders(due[i], due[i] == 0 ? 0 : due[i] - 1);
      Due.feed(x, "may weigh ");
      Due.due("5: bytes of " + numbers[i], x.feed(numbers[i], bytes[i]), 10 + bytes[i]);
      Due.due("5: they make a NUMBER", x.text(), 0);
      Due.due("5: which is " + due[i], x.may(0, 1), 1);
      Due.due("5: and no less", x.may(0, 2), 0);
    }
    ElderChest y = new ElderChest();
    y.feed('m' << 24 | 'a' << 16 | 'y' << 8 | ' ', 4);
    Due.due("5: all four, the highest first", y.text(), -5);
  }

  private static void tapeOf(ElderChest x, int bytes) {
    for (int i = 0; i < bytes / 4; i++) {
      x.feed(0x20202020, 4);
    }
    if (bytes % 4 != 0) {
      x.feed(0x20202020, bytes % 4);
    }
  }

  static void promise5Full() {
    for (int n = 1; n <= 4; n++) {
      int many = n;
      ElderChest x = Bounds.made(y -> tapeOf(y, 120 - many));
      Due.due("5: up to 120 with " + n, x.feed(0, n), 120);
      for (int room = 0; room < n; room++) {
        int had = 120 - room;
        Bounds.refused("5: " + n + " more than " + had, Due.FULL, y -> tapeOf(y, had),
            y -> y.feed('a', many));
      }
    }
  }

  static void promise5BeyondAheadOfFull() {
    for (int n : new int[] {0, 5, -1, MIN, MAX}) {
      Bounds.refused("5: n " + n + " while FULL", Due.BEYOND, y -> tapeOf(y, 120),
          y -> y.feed(0, n));
    }
  }

  // ---- 6: "THE TAPE is empty: how many it had."

  static void promise6EmptyAndFull() {
    for (int bytes : new int[] {0, 1, 119, 120}) {
      ElderChest x = Bounds.made(y -> tapeOf(y, bytes));
      Due.due("6: it had " + bytes, x.wipe(), bytes);
      Due.due("6: it has none", x.look(6), 0);
      Due.due("6: again", x.wipe(), 0);
      tapeOf(x, 119);
      Due.due("6: it takes 120 again", x.feed(0, 1), 120);
      Due.due("6: no finding", x.status(-1), 0);
    }
  }

  // ---- 7: "THE TAPE is a TEXT: its number; THE TAPE is empty then. FULL. With a FAULT: -1 less the
  // FAULT (THE TAPE stays; no finding)."

  static void promise7Full() {
    ElderChest x = new ElderChest();
    for (int i = 0; i < 8; i++) {
      Due.due("7: TEXT " + i, Due.read(x, "may weigh 1"), i);
    }
    Bounds.refused("7: a ninth", Due.FULL, Bounds::someAndEightTexts, ElderChest::text);
  }

  static void promise7FullAheadOfFault() {
    Bounds.refused("7: a FAULT while FULL", Due.FULL, y -> {
      Bounds.someAndEightTexts(y);
      y.feed('x', 1);
    }, ElderChest::text);
    Bounds.refused("7: an empty tape while FULL", Due.FULL, y -> {
      Bounds.someAndEightTexts(y);
      y.wipe();
    }, ElderChest::text);
  }

  static void promise7FaultLeavesAll() {
    Bounds.answersAndLeaves("7: an empty tape", -1, Bounds::nothing, ElderChest::text);
    Bounds.answersAndLeaves("7: a FAULT at 12", -13, y -> {
      Bounds.some(y);
      Due.feed(y, " x");
    }, ElderChest::text);
    ElderChest x = new ElderChest();
    tapeOf(x, 120);
    Due.due("7: 120 blanks", x.text(), -121);
    Due.due("7: THE TAPE stays", x.look(6), 120);
    Due.due("7: no finding", x.status(-1), 0);
  }

  static void promise7TapeIsEmptyThen() {
    ElderChest x = new ElderChest();
    Due.read(x, "may weigh 1");
    Due.due("7: no bytes", x.look(6), 0);
    Due.due("7: nothing to read again", x.text(), -1);
    tapeOf(x, 117);
    Due.due("7: 117 bytes and 3 fit", x.feed(0, 3), 120);
  }

  // ---- 8: "A TEXT is THE TEXT: which was. BEYOND."

  static void promise8Text() {
    Bounds.range("8: use", 0, -1, Bounds::nothing, ElderChest::use);
    Bounds.range("8: use", 0, 1, Bounds::some, ElderChest::use);
    Bounds.range("8: use", 0, 7, Bounds::someAndEightTexts, ElderChest::use);
  }

  static void promise8WhichWas() {
    ElderChest x = Bounds.made(Bounds::someAndEightTexts);
    Due.due("8: 1 was", x.use(7), 1);
    Due.due("8: 7 was", x.use(0), 7);
    Due.due("8: 0 was", x.use(0), 0);
    Due.due("8: it is", x.look(3), 0);
    Bounds.answersAndLeaves("8: THE TEXT again", 1, Bounds::some, y -> y.use(1));
  }

  // ---- 9: "1 if a SET MAY by a TEXT, else 0. BEYOND: the TEXT, others than ELDERS."

  static void promise9Text() {
    Bounds.range("9: TEXT", 0, -1, Bounds::nothing, (x, text) -> x.may(text, 0));
    Bounds.range("9: TEXT", 0, 1, Bounds::some, (x, text) -> x.may(text, 15));
    Bounds.range("9: TEXT", 0, 7, Bounds::someAndEightTexts, (x, text) -> x.may(text, 0));
  }

  static void promise9Set() {
    Bounds.range("9: SET", 0, 15, Bounds::some, (x, set) -> x.may(0, set));
    Bounds.range("9: SET", 0, 0, x -> Due.read(x, "may weigh 0"), (x, set) -> x.may(0, set));
    Bounds.range("9: SET", 0, 1023, x -> {
      Bounds.ten(x);
      Due.read(x, "may weigh 0");
    }, (x, set) -> x.may(0, set));
    Bounds.refused("9: others besides ELDERS", Due.BEYOND, Bounds::some, x -> x.may(0, 17));
  }

  static void promise9LeavesAll() {
    Bounds.answersAndLeaves("9: it MAY", 1, Bounds::some, x -> x.may(1, 5));
    Bounds.answersAndLeaves("9: it MAY not", 0, Bounds::some, x -> x.may(1, 3));
  }

  // ---- 10: "The first SET (by numbers) that MAY by THE TEXT, and the least ELDER with whom it MAY
  // not, told as 16 times the SET and the ELDER. STATE: there is no TEXT. NONE: THE TEXT RISES."

  static void promise10State() {
    Bounds.refused("10: more()", Due.STATE, Bounds::nothing, ElderChest::more);
    Bounds.refused("10: with ELDERS", Due.STATE, Bounds::ten, ElderChest::more);
    Due.due("10: a TEXT is enough", Bounds.withText(0, "may weigh 0").more(), Due.NONE);
  }

  static void promise10None() {
    Bounds.refused("10: it RISES", Due.NONE, Bounds::some, ElderChest::more);
    Due.due("10: all MAY", Bounds.withText(10, "may weigh 0").more(), Due.NONE);
    Due.due("10: none MAY", Bounds.withText(10, "may weigh 1").more(), Due.NONE);
    Due.due("10: ALL MAY alone", Bounds.withText(10, "may all everyone").more(), Due.NONE);
    ElderChest x = Bounds.withText(2, "may not any everyone");
    x.gone(0, true);
    x.gone(1, true);
    Due.due("10: the empty SET is the only one", x.more(), Due.NONE);
  }

  static void promise10FirstAndLast() {
    Due.due("10: the empty SET with 0", Bounds.withText(1, "may not any everyone").more(), 0);
    Due.due("10: the empty SET with 9", Bounds.withText(10, "may not any [9]").more(), 9);
    Due.due("10: all but 1, with 1",
        Bounds.withText(10, "may least 9 of everyone never any [0] and any [1]").more(), 16 * 1021 + 1);
    Due.due("10: the last SET that can be",
        Bounds.withText(10, "may all [1 2 3 4 5 6 7 8 9] never any [0]").more(), 16 * 1022);
    ElderChest x = Bounds.withText(3, "may any [0 1 2] never any [1] and any [0 2]");
    Due.due("10: the least ELDER with whom it MAY not", x.more(), 16 + 1);
    x.gone(0, true);
    Due.due("10: without one GONE", x.more(), 16 * 2 + 2);
    Bounds.answersAndLeaves("10: with an answer", 0, y -> {
      Bounds.some(y);
      Due.read(y, "may not any everyone");
      y.use(2);
    }, ElderChest::more);
  }

  // ---- 11, 12: "the i-th (from 0 on); i -1: how many. STATE. BEYOND: i below -1. NONE: there is
  // none such."

  static void promise11State() {
    for (int i : new int[] {-1, 0, MAX}) {
      Bounds.refused("11: least(" + i + ")", Due.STATE, Bounds::ten, x -> x.least(i));
    }
  }

  static void promise11StateAheadOfBeyond() {
    for (int i : new int[] {-2, MIN}) {
      Bounds.refused("11: least(" + i + ")", Due.STATE, Bounds::nothing, x -> x.least(i));
    }
  }

  static void promise11Index() {
    // By THE TEXT two of 0, 2, 3: {0 2}, {0 3}, {2 3}.
    long[] due = {3, 5, 9, 12};
    for (int i = -1; i < 3; i++) {
      int index = i;
      Bounds.answersAndLeaves("11: least(" + i + ")", due[i + 1], Bounds::some,
          x -> x.least(index));
    }
    for (int i : new int[] {3, 4, 252, 1024, MAX}) {
      Bounds.refused("11: least(" + i + ")", Due.NONE, Bounds::some, x -> x.least(i));
    }
    for (int i : new int[] {-2, -3, MIN}) {
      Bounds.refused("11: least(" + i + ")", Due.BEYOND, Bounds::some, x -> x.least(i));
    }
  }

  static void promise11NoneAndOne() {
    ElderChest x = Bounds.withText(10, "may weigh 1");
    Due.due("11: none, how many", x.least(-1), 0);
    Due.due("11: none, the first", x.least(0), Due.NONE);
    ElderChest y = Bounds.withText(10, "may weigh 0");
    Due.due("11: the empty SET alone", y.least(-1), 1);
    Due.due("11: it is 0", y.least(0), 0);
    Due.due("11: no second", y.least(1), Due.NONE);
    Due.due("11: ALL alone", Bounds.withText(10, "may all everyone").least(0), 1023);
  }

  static void promise11AsManyAsCanBe() {
    ElderChest x = Bounds.withText(10, "may least 5 of everyone");
    Due.due("11: how many", x.least(-1), 252);
    int at = 0;
    for (int set = 0; set < 1024; set++) {
      if (Integer.bitCount(set) == 5) {
        Due.due("11: least(" + at + ")", x.least(at), set);
        at++;
      }
    }
    Due.due("11: behind the last", x.least(252), Due.NONE);
  }

  static void promise12State() {
    for (int i : new int[] {-1, 0, MAX}) {
      Bounds.refused("12: most(" + i + ")", Due.STATE, Bounds::ten, x -> x.most(i));
    }
  }

  static void promise12StateAheadOfBeyond() {
    for (int i : new int[] {-2, MIN}) {
      Bounds.refused("12: most(" + i + ")", Due.STATE, Bounds::nothing, x -> x.most(i));
    }
  }

  static void promise12Index() {
    long[] due = {3, 1, 4, 8};
    for (int i = -1; i < 3; i++) {
      int index = i;
      Bounds.answersAndLeaves("12: most(" + i + ")", due[i + 1], Bounds::some, x -> x.most(index));
    }
    for (int i : new int[] {3, 4, 252, 1024, MAX}) {
      Bounds.refused("12: most(" + i + ")", Due.NONE, Bounds::some, x -> x.most(i));
    }
    for (int i : new int[] {-2, -3, MIN}) {
      Bounds.refused("12: most(" + i + ")", Due.BEYOND, Bounds::some, x -> x.most(i));
    }
  }

  static void promise12NoneAndOne() {
    ElderChest x = Bounds.withText(10, "may weigh 0");
    Due.due("12: none, how many", x.most(-1), 0);
    Due.due("12: none, the first", x.most(0), Due.NONE);
    ElderChest y = Bounds.withText(10, "may weigh 1");
    Due.due("12: ALL MAY not", y.most(-1), 1);
    Due.due("12: they are it", y.most(0), 1023);
    Due.due("12: no second", y.most(1), Due.NONE);
    Due.due("12: the empty SET alone", Bounds.withText(10, "may any everyone").most(0), 0);
  }

  static void promise12AsManyAsCanBe() {
    ElderChest x = Bounds.withText(10, "may least 6 of everyone");
    Due.due("12: how many", x.most(-1), 252);
    int at = 0;
    for (int set = 0; set < 1024; set++) {
      if (Integer.bitCount(set) == 5) {
        Due.due("12: most(" + at + ")", x.most(at), set);
        at++;
      }
    }
    Due.due("12: behind the last", x.most(252), Due.NONE);
  }
}
