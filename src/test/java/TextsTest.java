/** Promises 5 to 12: feed, wipe, text, use, may, more, least, most. */
final class TextsTest {
  public static void main(String[] args) {
    promise5Feed();
    promise6Wipe();
    promise7Text();
    promise7Faults();
    promise7Depth();
    promise8Use();
    promise9May();
    promise9Joins();
    promise10More();
    promise11Least();
    promise12Most();
    Due.end("TextsTest");
  }

  private static void promise5Feed() {
    ElderChest x = new ElderChest();
    for (int n : new int[] {0, 5, -1, Integer.MIN_VALUE, Integer.MAX_VALUE}) {
      Due.due("5: feed(0, " + n + ")", x.feed(0, n), Due.BEYOND);
    }
    Due.due("5: nothing came", x.look(6), 0);
    Due.due("5: feed 3 of 4 bytes", x.feed(0x7A6D6179, 3), 3);
    Due.due("5: feed 1 of 4 bytes", x.feed(0x7A7A7A20, 1), 4);
    Due.due("5: feed 4", x.feed(0x616C6C5B, 4), 8);
    Due.due("5: feed 2", x.feed(0x305D, 2), 10);
    Due.due("5: that was: may all[0]", x.text(), 0);
    for (int i = 1; i <= 29; i++) {
      Due.due("5: feed up to 116", x.feed(-1, 4), 4 * i);
    }
    Due.due("5: feed up to 119", x.feed(0, 3), 119);
    Due.due("5: two more are too many", x.feed(0, 2), Due.FULL);
    Due.due("5: a finding adds nothing", x.look(6), 119);
    Due.due("5: feed up to 120", x.feed(0, 1), 120);
    Due.due("5: feed a 121st", x.feed(0, 1), Due.FULL);
    Due.due("5: BEYOND ahead of FULL", x.feed(0, 0), Due.BEYOND);
    Due.due("5: BEYOND ahead of FULL, n 5", x.feed(0, 5), Due.BEYOND);
    Due.due("5: 120 bytes", x.look(6), 120);
  }

  private static void promise6Wipe() {
    ElderChest x = new ElderChest();
    Due.due("6: wipe() of an empty one", x.wipe(), 0);
    Due.feed(x, "may any everyone");
    Due.due("6: wipe()", x.wipe(), 16);
    Due.due("6: it is empty", x.look(6), 0);
    Due.due("6: wipe() again", x.wipe(), 0);
    Due.due("6: no finding", x.status(-1), 0);
    Due.due("6: what is fed then stands alone", Due.read(x, "may weigh 1"), 0);
  }

  private static void promise7Text() {
    ElderChest x = Due.withElders(1);
    Due.due("7: of an empty tape", x.text(), -1);
    for (int i = 0; i < 8; i++) {
      Due.due("7: text " + i, Due.read(x, "may weigh " + i), i);
      Due.due("7: the tape is empty then", x.look(6), 0);
      Due.due("7: TEXTS", x.look(2), i + 1);
      Due.due("7: THE TEXT is the first", x.look(3), 0);
    }
    Due.due("7: a ninth", Due.read(x, "may weigh 1"), Due.FULL);
    Due.due("7: the tape stays with FULL", x.look(6), 11);
    Due.due("7: FULL is asked ahead of the FAULT", Due.read(x, "may"), Due.FULL);
    Due.due("7: two findings", x.status(-1), 2);
    ElderChest y = new ElderChest();
    Due.due("7: a FAULT", Due.read(y, "may weigh x"), -11);
    Due.due("7: the tape stays with a FAULT", y.look(6), 11);
    Due.due("7: a FAULT is no finding", y.status(-1), 0);
    Due.due("7: no TEXT came of it", y.look(2), 0);
    Due.due("7: nor THE TEXT", y.look(3), -1);
    Due.due("7: the same FAULT again", y.text(), -11);
    nothingStaysOfAFault();
    y.feed(' ', 1);
    Due.due("7: the same FAULT still", y.text(), -11);
  }

  private static void nothingStaysOfAFault() {
    ElderChest x = Due.withElders(1);
    for (int i = 0; i < 15; i++) {
      String tooShort = "may weigh 0 or weigh 0 or weigh 0 or weigh 0 or weigh 0 or weigh 0 or";
      Due.due("7: a long FAULT", Due.read(x, tooShort), -1 - tooShort.length());
    }
    Due.due("7: a TEXT behind them", Due.read(x, "may weigh 1 never weigh 2"), 0);
    Due.due("7: it is as it was read", x.may(0, 1), 1);
    Due.due("7: it is as it was read, the empty SET", x.may(0, 0), 0);
  }

  private static void promise7Faults() {
    String[] right = {"may any everyone", "may all[0]", " may  all [ 0  1 ] ",
        "may weigh 1never weigh 2", "may(weigh 1)", "may least 2of[0 1]or weigh 3and all[9]",
        "may weigh 99", "may weigh 099", "may weigh 0000000099", "may all [09 00]",
        "may least 99 of everyone", "may not weigh 1 and not not weigh 2",
        "may any [0 0 0] never any [1] or not all everyone",
        "may (weigh 1 or weigh 2) and (weigh 3)", "may weigh 1 never (not (weigh 1))"};
    for (String text : right) {
      faultIs(text, -1);
    }
    faultIs("mayweigh 1", 0);
    faultIs("", 0);
    faultIs("   ", 3);
    faultIs("m", 0);
    faultIs("  ma", 2);
    faultIs("may", 3);
    faultIs("may ", 4);
    faultIs("may   ", 6);
    faultIs("maybe any everyone", 0);
    faultIs("never weigh 1", 0);
    faultIs("May weigh 1", 0);
    faultIs("may Weigh 1", 4);
    faultIs("may may weigh 1", 4);
    faultIs("may weigh", 9);
    faultIs("may weigh 100", 10);
    faultIs("may weigh 99999999999999999999999", 10);
    faultIs("may weigh 4294967296", 10);
    faultIs("may weigh -1", 10);
    faultIs("may weigh of", 10);
    faultIs("may weigh 1 2", 12);
    faultIs("may weigh 1 weigh 2", 12);
    faultIs("may weigh 1 of everyone", 12);
    faultIs("may weigh 1)", 11);
    faultIs("may (weigh 1", 12);
    faultIs("may (weigh 1]", 12);
    faultIs("may ()", 5);
    faultIs("may weigh 1 or", 14);
    faultIs("may weigh 1 or and weigh 2", 15);
    faultIs("may weigh 1 and or weigh 2", 16);
    faultIs("may weigh 1 never", 17);
    faultIs("may weigh 1 never ", 18);
    faultIs("may weigh 1 never weigh 2 never weigh 3", 26);
    faultIs("may weigh 1 never may", 18);
    faultIs("may (weigh 1 never weigh 2)", 13);
    faultIs("may not", 7);
    faultIs("may not or", 8);
    faultIs("may least of everyone", 10);
    faultIs("may least 2 everyone", 12);
    faultIs("may least 2 of", 14);
    faultIs("may least 2 of 3", 15);
    faultIs("may least 100 of everyone", 10);
    faultIs("may all", 7);
    faultIs("may all 1", 8);
    faultIs("may all every", 8);
    faultIs("may all everyones", 8);
    faultIs("may all []", 9);
    faultIs("may all [1", 10);
    faultIs("may all [1 ", 11);
    faultIs("may all [10]", 9);
    faultIs("may all [1 10]", 11);
    faultIs("may all [1 100]", 11);
    faultIs("may all [everyone]", 9);
    faultIs("may all [1 any]", 11);
    faultIs("may all [1)", 10);
    faultIs("may all ]", 8);
    faultIs("may any (0)", 8);
    faultIs("may any [0],", 11);
    faultIs("may any [0, 1]", 10);
    faultIs("may any\t[0]", 7);
    faultIs("may\nany [0]", 3);
    faultIs("may any [0]\0", 11);
    faultIs("may any \u00ff", 8);
    faultIs("may any [0] x", 12);
    faultIs("may any [0] and x", 16);
    faultIs("may any [0] @ @", 12);
    faultIs("may { weigh 1 }", 4);
    faultIs("may weigh 1`", 11);
    faultIs("may weigh 1{", 11);
    faultIs("may weigh 1 orz", 12);
    faultIs("may weigh 1 ora", 12);
  }

  private static void promise7Depth() {
    faultIs("may ((((((weigh 1))))))", -1);
    faultIs("may (((((((weigh 1)))))))", 10);
    faultIs("may not not not not not not weigh 1", -1);
    faultIs("may not not not not not not not weigh 1", 28);
    faultIs("may not(not(not(weigh 1)))", -1);
    faultIs("may not(not(not(not weigh 1)))", 16);
    faultIs("may not(not(not((weigh 1))))", 16);
    faultIs("may (((((not weigh 1)))))", -1);
    faultIs("may (((((not not weigh 1)))))", 13);
    faultIs("may (((((not weigh 1 and not weigh 2)))))", -1);
    faultIs("may (((((not weigh 1 or (weigh 2))))))", -1);
    faultIs("may (((((not(weigh 1))))))", 12);
    faultIs("may ((((((weigh 1))))))and((((((weigh 1))))))", -1);
    faultIs("may ((((((weigh 1))))))never((((((weigh 1))))))", -1);
    faultIs("may ((((((weigh 1))))))never(((((((weigh 1)))))))", 34);
    faultIs("may ((((((weigh 1)))or(((weigh 2))))))", -1);
    faultIs("may ((((((weigh 1)))or((((weigh 2)))))))", 25);
    faultIs("may ((((((weigh 1))))))) ", 23);
  }

  /** -1: there is none. */
  private static void faultIs(String text, int fault) {
    ElderChest x = new ElderChest();
    long want = fault < 0 ? 0 : -1 - fault;
    Due.due("7: text() of '" + text + "'", Due.read(x, text), want);
    Due.due("7: bytes behind '" + text + "'", x.look(6), fault < 0 ? 0 : text.length());
  }

  private static void promise8Use() {
    ElderChest x = new ElderChest();
    Due.due("8: use(0) without one", x.use(0), Due.BEYOND);
    Due.due("8: use(-1) without one", x.use(-1), Due.BEYOND);
    Due.read(x, "may weigh 0");
    Due.read(x, "may weigh 1");
    Due.due("8: use(2)", x.use(2), Due.BEYOND);
    Due.due("8: use(-1)", x.use(-1), Due.BEYOND);
    Due.due("8: use(MAX)", x.use(Integer.MAX_VALUE), Due.BEYOND);
    Due.due("8: THE TEXT is still the first", x.look(3), 0);
    Due.due("8: use(1)", x.use(1), 0);
    Due.due("8: THE TEXT", x.look(3), 1);
    Due.due("8: use(1) again", x.use(1), 1);
    Due.due("8: by the other one the empty SET MAY not", x.least(-1), 0);
    Due.due("8: use(0)", x.use(0), 1);
    Due.due("8: by the first one it MAY", x.least(-1), 1);
    Due.read(x, "may weigh 2");
    Due.due("8: a new TEXT isn't THE TEXT", x.look(3), 0);
  }

  private static void promise9May() {
    ElderChest x = Due.withElders(1, 2, 3, 4);
    String[] texts = {"may least 2 of [0 1 2 9]", "may all [1 3 8]", "may any [0 3 7]",
        "may weigh 5", "may all everyone", "may any everyone", "may least 3 of everyone",
        "may all [8 9]"};
    for (String text : texts) {
      Due.read(x, text);
    }
    for (int set = 0; set < 16; set++) {
      int weight = (set & 1) + (set >> 1 & 1) * 2 + (set >> 2 & 1) * 3 + (set >> 3 & 1) * 4;
      boolean[] due = {Integer.bitCount(set & 7) >= 2, (set & 10) == 10, (set & 9) != 0,
          weight >= 5, set == 15, set != 0, Integer.bitCount(set) >= 3, true};
      for (int text = 0; text < 8; text++) {
        Due.due("9: may(" + text + ", " + set + ")", x.may(text, set), due[text] ? 1 : 0);
      }
    }
    x.gone(3, true);
    Due.due("9: all [1 3 8] while 3 is GONE", x.may(1, 2), 1);
    Due.due("9: any [0 3 7] of one GONE", x.may(2, 8), 0);
    Due.due("9: weigh 5 with one GONE", x.may(3, 9), 0);
    Due.due("9: all everyone while 3 is GONE", x.may(4, 7), 1);
    Due.due("9: any everyone of one GONE", x.may(5, 8), 0);
    Due.due("9: least 3 of everyone with one GONE", x.may(6, 11), 0);
    Due.due("9: may(8, 0)", x.may(8, 0), Due.BEYOND);
    Due.due("9: may(-1, 0)", x.may(-1, 0), Due.BEYOND);
    Due.due("9: may(0, 16)", x.may(0, 16), Due.BEYOND);
    Due.due("9: may(0, -1)", x.may(0, -1), Due.BEYOND);
    Due.due("9: may(0, MIN)", x.may(0, Integer.MIN_VALUE), Due.BEYOND);
    x.elder(9);
    Due.due("9: ELDERS that came later", x.may(4, 7), 0);
    Due.due("9: ELDERS that came later count", x.may(4, 23), 1);
    Due.due("9: without ELDERS", lone("may all everyone").may(0, 0), 1);
    Due.due("9: without ELDERS there is no other SET", lone("may all [0]").may(0, 1), Due.BEYOND);
  }

  private static ElderChest lone(String text) {
    ElderChest x = new ElderChest();
    Due.read(x, text);
    return x;
  }

  private static void promise9Joins() {
    String[] texts = {"may any [0] or any [1] and any [2]", "may (any [0] or any [1]) and any [2]",
        "may not any [0] and any [1]", "may not (any [0] and any [1])",
        "may not not any [0] or not any [2]", "may any [0] or any [1] never any [2]",
        "may any [0] never any [1] and any [2] or all everyone",
        "may least 0 of [0] never not least 99 of [0]"};
    ElderChest x = Due.withElders(0, 0, 0);
    for (String text : texts) {
      Due.read(x, text);
    }
    for (int set = 0; set < 8; set++) {
      boolean a = (set & 1) != 0;
      boolean b = (set & 2) != 0;
      boolean c = (set & 4) != 0;
      boolean[] due = {a || b && c, (a || b) && c, !a && b, !(a && b), a || !c, (a || b) && !c,
          a && !(b && c), false};
      for (int text = 0; text < 8; text++) {
        Due.due("9: " + texts[text] + ", set " + set, x.may(text, set), due[text] ? 1 : 0);
      }
    }
    ElderChest y = Due.withElders(0, 0);
    Due.read(y, "may least 2 of [0 0]");
    Due.due("9: an ELDER told twice counts once", y.may(0, 1), 0);
  }

  private static void promise10More() {
    ElderChest x = Due.withElders(1, 1, 1);
    Due.due("10: no TEXT", x.more(), Due.STATE);
    Due.read(x, "may any [0 1] never all [0 1]");
    Due.due("10: {0} MAY, with 1 not", x.more(), 16 + 1);
    x.gone(1, true);
    Due.due("10: 1 is GONE", x.more(), Due.NONE);
    x.gone(1, false);
    x.gone(0, true);
    Due.due("10: 0 is GONE", x.more(), Due.NONE);
    x.gone(0, false);
    Due.read(x, "may any [1] never any [2] or any [0]");
    x.use(1);
    Due.due("10: the least ELDER", x.more(), 2 * 16);
    Due.read(x, "may not any everyone");
    x.use(2);
    Due.due("10: the empty SET", x.more(), 0);
    Due.read(x, "may all [2] never all everyone");
    x.use(3);
    Due.due("10: not the first SET that MAY", x.more(), 5 * 16 + 1);
    Due.read(x, "may least 2 of everyone");
    x.use(4);
    Due.due("10: one that RISES", x.more(), Due.NONE);
    Due.due("10: STATE once", x.status(4), 1);
    Due.due("10: NONE thrice", x.status(3), 3);
  }

  private static void promise11Least() {
    ElderChest x = Due.withElders(1, 2, 3, 4);
    Due.due("11: no TEXT", x.least(-1), Due.STATE);
    Due.due("11: STATE ahead of BEYOND", x.least(-2), Due.STATE);
    Due.read(x, "may weigh 5");
    listIs("11: weigh 5", x, false, 6, 9, 10, 12);
    Due.due("11: least(-2)", x.least(-2), Due.BEYOND);
    Due.due("11: least(MIN)", x.least(Integer.MIN_VALUE), Due.BEYOND);
    Due.due("11: least(MAX)", x.least(Integer.MAX_VALUE), Due.NONE);
    x.gone(1, true);
    listIs("11: weigh 5 while 1 is GONE", x, false, 9, 12);
    x.gone(1, false);
    Due.read(x, "may not any everyone or all everyone");
    x.use(1);
    listIs("11: a part with two or more less counts", x, false, 0);
    Due.read(x, "may weigh 99");
    x.use(2);
    listIs("11: none MAY", x, false);
    Due.read(x, "may least 1 of [0] and not any [1] or least 3 of everyone");
    x.use(3);
    listIs("11: {0 1 2} has a part {0}", x, false, 1, 14);
    ElderChest ten = Due.withElders(0, 0, 0, 0, 0, 0, 0, 0, 0, 0);
    Due.read(ten, "may least 5 of everyone");
    Due.due("11: five of ten", ten.least(-1), 252);
    Due.due("11: the first", ten.least(0), 31);
    Due.due("11: the last", ten.least(251), 992);
    Due.due("11: behind the last", ten.least(252), Due.NONE);
  }

  private static void promise12Most() {
    ElderChest x = Due.withElders(1, 2, 3, 4);
    Due.due("12: no TEXT", x.most(0), Due.STATE);
    Due.due("12: STATE ahead of BEYOND", x.most(-2), Due.STATE);
    Due.read(x, "may weigh 5");
    listIs("12: weigh 5", x, true, 3, 5, 8);
    Due.due("12: most(-2)", x.most(-2), Due.BEYOND);
    Due.due("12: most(MAX)", x.most(Integer.MAX_VALUE), Due.NONE);
    x.gone(3, true);
    listIs("12: weigh 5 while 3 is GONE", x, true, 3, 5);
    x.gone(3, false);
    Due.read(x, "may weigh 0");
    x.use(1);
    listIs("12: all MAY", x, true);
    Due.read(x, "may not any everyone or weigh 99");
    x.use(2);
    listIs("12: ALL MAY not", x, true, 15);
    Due.read(x, "may any everyone never all [0 1 2] and not any [3]");
    x.use(3);
    listIs("12: each with one or more besides MAY", x, true, 7);
    Due.read(x, "may least 3 of everyone or all [0]");
    x.use(4);
    listIs("12: least 3 or all [0]", x, true, 6, 10, 12);
    ElderChest ten = Due.withElders(0, 0, 0, 0, 0, 0, 0, 0, 0, 0);
    Due.read(ten, "may least 6 of everyone");
    Due.due("12: five of ten", ten.most(-1), 252);
    Due.due("12: the first", ten.most(0), 31);
    Due.due("12: the last", ten.most(251), 992);
    Due.due("12: behind the last", ten.most(252), Due.NONE);
    ElderChest none = lone("may any everyone");
    Due.due("12: without ELDERS", none.most(0), 0);
    Due.due("12: without ELDERS, how many", none.most(-1), 1);
  }

  private static void listIs(String call, ElderChest x, boolean most, long... sets) {
    Due.due(call + ", how many", most ? x.most(-1) : x.least(-1), sets.length);
    for (int i = 0; i < sets.length; i++) {
      Due.due(call + ", " + i, most ? x.most(i) : x.least(i), sets[i]);
    }
    int behind = sets.length;
    Due.due(call + ", behind", most ? x.most(behind) : x.least(behind), Due.NONE);
  }
}
