/** Terms: findings, and section 1 (elders, texts) at its bounds. */
final class BoundsTermsTest {
  private static final int MIN = Integer.MIN_VALUE;
  private static final int MAX = Integer.MAX_VALUE;

  public static void main(String[] args) {
    Due.runAll(BoundsTermsTest.class);
  }

  // ---- "FINDINGS are answers below -1000000000"

  static void terms0FindingsAreTheseNumbers() {
    ElderChest x = Bounds.made(Bounds::someAndTenElders);
    Due.due("Terms: BEYOND", x.elder(-1), -1000000001L);
    Due.due("Terms: FULL", x.elder(0), -1000000002L);
    Due.due("Terms: KIND", x.as(0, 2), -1000000003L);
    Due.due("Terms: NONE", x.more(), -1000000004L);
    Due.due("Terms: STATE", new ElderChest().more(), -1000000005L);
    Due.due("Terms: MISSING", x.judge(3, 0), -1000000006L);
    Due.due("Terms: SIZE", x.fewest(), -1000000007L);
    Due.due("Terms: BEYOND of a long", x.write(4, 0, 0), -1000000001L);
    Due.due("Terms: MISSING of a long", x.write(3, 0, 0), -1000000006L);
  }

  /** "An object is used for at most 512 calls after it has been made." */
  static void terms0FiveHundredAndTwelveCalls() {
    ElderChest x = new ElderChest();
    for (int i = 1; i <= 511; i++) {
      Due.due("Terms: refused call " + i, x.elder(10), Due.BEYOND);
    }
    Due.due("Terms: the 512th call", x.status(-1), 511);
    ElderChest y = new ElderChest();
    for (int i = 1; i <= 255; i++) {
      y.image();
      y.lock(0, false);
      Due.due("Terms: undo() " + i, y.undo(), 0);
    }
  }

  // ---- 1: ELDERS

  static void terms1AtMostTenElders() {
    ElderChest x = new ElderChest();
    for (int i = 0; i < 10; i++) {
      Due.due("Terms 1: ELDER " + i, x.elder(1), i);
    }
    Due.due("Terms 1: an eleventh", x.elder(1), Due.FULL);
    Due.due("Terms 1: ten are there", x.look(0), 10);
    for (int i = 0; i < 10; i++) {
      x.gone(i, true);
    }
    Due.due("Terms 1: those GONE count", x.elder(1), Due.FULL);
  }

  static void terms1WeightsNoughtToNine() {
    for (int weight = -2; weight <= 11; weight++) {
      boolean taken = weight >= 0 && weight <= 9;
      Due.due("Terms 1: WEIGHT " + weight, new ElderChest().elder(weight), taken ? 0 : Due.BEYOND);
    }
  }

  static void terms1NoneGoneAtFirst() {
    ElderChest x = Bounds.made(Bounds::ten);
    for (int elder = 0; elder < 10; elder++) {
      Due.due("Terms 1: GONE at first", x.of(elder, 1), 0);
    }
    Due.due("Terms 1: ALL are ten", x.look(1), 10);
  }

  /** "A SET of ELDERS is told with those that there are": for each call with such a SET. */
  static void terms1SetsOfThoseThatThereAre() {
    for (int many = 0; many <= 10; many++) {
      int all = (1 << many) - 1;
      int[] wrong = {all + 1, 2 * all + 2, -1, MIN, MAX, 1 << 10, 1 << 30};
      setIsTaken(many, 0, true);
      setIsTaken(many, all, true);
      for (int set : wrong) {
        setIsTaken(many, set, false);
      }
    }
  }

  private static void setIsTaken(int elders, int set, boolean taken) {
    ElderChest x = Bounds.withText(elders, "may weigh 0");
    x.lock(0, false);
    x.box(0, 0);
    long[] answers = {x.may(0, set), x.opens(0, set), x.had(set), x.round(1, set), x.need(0, set)};
    long[] due = {1, 0, 0, 0, 1};
    for (int i = 0; i < answers.length; i++) {
      Due.due("Terms 1: SET " + set + " of " + elders + ", call " + i, answers[i],
          taken ? due[i] : Due.BEYOND);
    }
  }

  /** "One who is GONE counts in it as if not told." */
  static void terms1GoneIsAsNotTold() {
    ElderChest x = Bounds.withText(10, "may any [0 9]");
    x.lock(3, false);
    x.box(0, 4);
    for (int elder : new int[] {0, 9}) {
      x.key(elder, 3, true);
    }
    x.gone(9, true);
    for (int others : new int[] {0, 1, 510}) {
      int with = others | 1 << 9;
      Due.due("Terms 1: may", x.may(0, with), x.may(0, others));
      Due.due("Terms 1: opens", x.opens(0, with), x.opens(0, others));
      Due.due("Terms 1: had", x.had(with), x.had(others));
      Due.due("Terms 1: round", x.round(1, with), x.round(1, others));
      Due.due("Terms 1: need", x.need(0, with), x.need(0, others));
    }
    Due.due("Terms 1: one GONE alone MAY not", x.may(0, 1 << 9), 0);
    Due.due("Terms 1: nor has it KEYS", x.had(1 << 9), 0);
    Due.due("Terms 1: it is taken", x.status(-1), 0);
  }

  /** "ALL are those that aren't GONE": they may be none. */
  static void terms1AllMayBeNone() {
    ElderChest x = Bounds.withText(2, "may all everyone");
    x.gone(0, true);
    x.gone(1, true);
    Due.due("Terms 1: ALL", x.look(1), 0);
    Due.due("Terms 1: all of none", x.may(0, 3), 1);
    Due.due("Terms 1: the empty SET is the only one", x.least(-1), 1);
    Due.due("Terms 1: it MAY", x.least(0), 0);
    Due.due("Terms 1: none MAY not", x.most(-1), 0);
  }

  // ---- 1: TEXTS

  static void terms1AtMostEightTexts() {
    ElderChest x = new ElderChest();
    for (int i = 0; i < 8; i++) {
      Due.due("Terms 1: TEXT " + i, Due.read(x, "may weigh " + i), i);
    }
    Due.due("Terms 1: a ninth", Due.read(x, "may weigh 8"), Due.FULL);
    Due.due("Terms 1: eight are there", x.look(2), 8);
  }

  /** "THE TEXT is one of them (the first that is read, till another one is told)." */
  static void terms1TheTextIsTheFirst() {
    ElderChest x = new ElderChest();
    Due.due("Terms 1: none at first", x.look(3), -1);
    Due.read(x, "may");
    Due.due("Terms 1: a FAULT makes none", x.look(3), -1);
    Due.read(x, "may weigh 0");
    Due.due("Terms 1: the first", x.look(3), 0);
    for (int i = 1; i < 8; i++) {
      Due.read(x, "may weigh 1");
      Due.due("Terms 1: still the first", x.look(3), 0);
    }
    x.use(7);
    Due.due("Terms 1: another one is told", x.look(3), 7);
    ElderChest y = Bounds.withText(0, "may weigh 0");
    Due.read(y, "may weigh 1");
    y.use(1);
    Due.read(y, "may weigh 2");
    Due.due("Terms 1: a later one doesn't take its place", y.look(3), 1);
  }

  /** "THE TAPE (bytes, at most 120)": a TEXT that fills it. */
  static void terms1LongestText() {
    String[] long120 = {
        "may any [0]" + " ".repeat(109),
        " ".repeat(109) + "may any [0]",
        "may weigh " + "0".repeat(109) + "1",
        "may any[" + "0 ".repeat(55) + "0]",
        "may any[" + "0 ".repeat(55) + "9]",
        "may " + "weigh 1or ".repeat(11) + "any[0]"};
    for (String text : long120) {
      ElderChest x = Due.withElders(1, 0);
      Due.due("Terms 1: bytes of " + text, text.length(), 120);
      Due.due("Terms 1: " + text, Due.read(x, text), 0);
      Due.due("Terms 1: {0} by " + text, x.may(0, 1), 1);
      Due.due("Terms 1: {1} by " + text, x.may(0, 2), 0);
    }
    faultAt(" ".repeat(117) + "may", 120);
    faultAt(" ".repeat(119) + "m", 119);
    faultAt("m" + "a".repeat(119), 0);
    faultAt("may weigh " + "0".repeat(107) + "100", 10);
    faultAt("may weigh 1" + " ".repeat(108) + "x", 119);
    faultAt("may weigh 1" + " ".repeat(107) + "or", 120);
  }

  /** As many TOKENS as bytes: each is one byte, on a full TAPE. */
  static void terms1MostTokens() {
    for (String one : new String[] {"(", ")", "[", "]", "?", "a(", "0[", "()", "[0"}) {
      String full = one.repeat(120 / one.length());
      faultAt(full, 0);
      // A TEXT ahead of them, so that they are read from its end on.
      faultAt("may weigh 1" + ")" + full.substring(12), 11);
    }
    faultAt("may any[" + "0 1 ".repeat(28), 120);
    faultAt("may any[" + "0 1 ".repeat(27) + "0 1]", -1);
  }

  /** -1: there is none. */
  private static void faultAt(String text, int fault) {
    ElderChest x = new ElderChest();
    Due.due("Terms 1, 7: '" + text + "'", Due.read(x, text), fault < 0 ? 0 : -1 - fault);
    Due.due("Terms 1, 7: bytes behind '" + text + "'", x.look(6), fault < 0 ? 0 : text.length());
    Due.due("Terms 1, 7: findings of '" + text + "'", x.status(-1), 0);
  }

  /** "TOKENS, each as long as can be" */
  static void terms1TokensAsLongAsCanBe() {
    faultAt("mayweigh 1", 0);
    faultAt("may weighweigh 1", 4);
    faultAt("may least 1 ofeveryone", 12);
    faultAt("may notnot weigh 1", 4);
    faultAt("may weigh 1 andweigh 2", 12);
    faultAt("may weigh 1 0", 12);
    faultAt("may any [10]", 9);
    faultAt("may any [1 0]", -1);
    faultAt("may weigh 10", -1);
  }

  /** "WORDS (letters a to z)", told by each byte that there is, behind a WORD. */
  static void terms1Letters() {
    for (int b = 0; b < 256; b++) {
      char sign = (char) b;
      boolean letter = sign >= 'a' && sign <= 'z';
      boolean digit = sign >= '0' && sign <= '9';
      faultAt("may weigh" + sign + " 1", letter ? 4 : digit ? 11 : sign == ' ' ? -1 : 9);
    }
  }

  /** "NUMBERS (digits, ..)", "blanks", "a byte that begins no TOKEN: its own". */
  static void terms1DigitsAndOtherBytes() {
    for (int b = 0; b < 256; b++) {
      char sign = (char) b;
      boolean digit = sign >= '0' && sign <= '9';
      faultAt("may weigh 1" + sign, digit || sign == ' ' ? -1 : 11);
      faultAt(sign + "may weigh 1", sign == ' ' ? -1 : 0);
      faultAt("may" + sign + "(weigh 1)", sign >= 'a' && sign <= 'z' ? 0 : sign == ' ' ? -1
          : sign == '(' ? 13 : 3);
    }
  }

  /** "99 at most", "a NUMBER that is too great: its own". */
  static void terms1Ninetynine() {
    for (int number = 0; number <= 120; number++) {
      faultAt("may weigh " + number, number <= 99 ? -1 : 10);
      faultAt("may least " + number + " of everyone", number <= 99 ? -1 : 10);
    }
    faultAt("may weigh 099", -1);
    faultAt("may weigh 0100", 10);
    faultAt("may weigh 000", -1);
    for (String wraps : new String[] {"256", "4294967296", "4294967297", "18446744073709551617",
        "999999999999999999999999999999999"}) {
      faultAt("may weigh " + wraps, 10);
      faultAt("may any [" + wraps + "]", 9);
    }
  }

  /** "N .. (in [ ] 0 to 9: an ELDER, there or not)" */
  static void terms1NumbersInAList() {
    for (int number = 0; number <= 12; number++) {
      faultAt("may any [" + number + "]", number <= 9 ? -1 : 9);
      faultAt("may all [0 " + number + "]", number <= 9 ? -1 : 11);
      faultAt("may least 1 of [9 0 " + number + " 9]", number <= 9 ? -1 : 20);
    }
    faultAt("may any [09]", -1);
    faultAt("may any [010]", 9);
    faultAt("may any [99]", 9);
    faultAt("may any [100]", 9);
  }

  /** "PART: everyone, or [ N { N } ]": one at least. */
  static void terms1Parts() {
    faultAt("may any everyone", -1);
    faultAt("may any [0]", -1);
    faultAt("may any [0 1 2 3 4 5 6 7 8 9]", -1);
    faultAt("may any []", 9);
    faultAt("may any [ ]", 10);
    faultAt("may any [", 9);
    faultAt("may any [0", 10);
    faultAt("may any 0]", 8);
    faultAt("may any [0]]", 11);
    faultAt("may any [[0]]", 9);
    faultAt("may any [everyone]", 9);
    faultAt("may any everyone [0]", 17);
    faultAt("may any [0] [1]", 12);
    faultAt("may any (everyone)", 8);
    faultAt("may any", 7);
  }

  /** "blanks may stand between": none where TOKENS end by themselves, or many. */
  static void terms1Blanks() {
    faultAt("may(any[0]or(weigh 1and not(all[1]))never(least 2of[0 1]))", 36);
    faultAt("may(any[0]or(weigh 1and not(all[1])))never(least 2of[0 1])", -1);
    faultAt("   may    any   [   0   1   ]   ", -1);
    faultAt("may any [0 1]", -1);
    faultAt("ma y any [0]", 0);
    faultAt("may an y [0]", 4);
  }

  /** "TEXT: may E, perhaps never E behind." */
  static void terms1MayAndNever() {
    faultAt("", 0);
    faultAt(" ", 1);
    faultAt("may", 3);
    faultAt("may ", 4);
    faultAt("weigh 1", 0);
    faultAt("never weigh 1", 0);
    faultAt("may never weigh 1", 4);
    faultAt("may may weigh 1", 4);
    faultAt("may weigh 1", -1);
    faultAt("may weigh 1 may weigh 1", 12);
    faultAt("may weigh 1 never", 17);
    faultAt("may weigh 1 never weigh 1", -1);
    faultAt("may weigh 1 never weigh 1 never weigh 1", 26);
    faultAt("may weigh 1 or never weigh 1", 15);
    faultAt("may weigh 1 never or weigh 1", 18);
    faultAt("may (weigh 1 never weigh 1)", 13);
    faultAt("may weigh 1 never (weigh 1", 26);
    faultAt("may weigh 1 never weigh 1)", 25);
  }

  /** "E: BOTH { or BOTH }. BOTH: NOT { and NOT }. NOT: not NOT, or ONE." */
  static void terms1Joins() {
    faultAt("may weigh 1 or", 14);
    faultAt("may weigh 1 and", 15);
    faultAt("may or weigh 1", 4);
    faultAt("may and weigh 1", 4);
    faultAt("may weigh 1 or or weigh 2", 15);
    faultAt("may weigh 1 and and weigh 2", 16);
    faultAt("may weigh 1 not weigh 2", 12);
    faultAt("may weigh 1 and not weigh 2", -1);
    faultAt("may not", 7);
    faultAt("may not and weigh 1", 8);
    faultAt("may weigh 1 weigh 2", 12);
    faultAt("may weigh 1 or weigh 2 and weigh 3 or weigh 4 and weigh 5", -1);
  }

  /** "ONE: least N of PART, all PART, any PART, weigh N, ( E )." */
  static void terms1Ones() {
    faultAt("may least", 9);
    faultAt("may least 1", 11);
    faultAt("may least 1 of", 14);
    faultAt("may least of everyone", 10);
    faultAt("may least 1 everyone", 12);
    faultAt("may least everyone", 10);
    faultAt("may least 1 of 1", 15);
    faultAt("may all", 7);
    faultAt("may all of everyone", 8);
    faultAt("may all 1", 8);
    faultAt("may weigh", 9);
    faultAt("may weigh everyone", 10);
    faultAt("may weigh [1]", 10);
    faultAt("may everyone", 4);
    faultAt("may 1", 4);
    faultAt("may [1]", 4);
    faultAt("may of everyone", 4);
    faultAt("may (", 5);
    faultAt("may ()", 5);
    faultAt("may )", 4);
    faultAt("may (weigh 1", 12);
    faultAt("may (weigh 1))", 13);
    faultAt("may (weigh 1) (weigh 1)", 14);
  }

  private static final String OPERAND = " not ( least all any weigh ";
  private static final String BEHIND = " or and never ";

  /** Each place of a TEXT, and the TOKENS that can stand there. */
  private static final String[][] PLACES = {
      {"", " may "}, {"may ", OPERAND}, {"may weigh ", " 5 "}, {"may least ", " 5 "},
      {"may least 5 ", " of "}, {"may least 5 of ", " everyone [ "}, {"may all ", " everyone [ "},
      {"may any ", " everyone [ "}, {"may any [", " 5 "}, {"may any [5 ", " 5 ] "},
      {"may any [5 5 ", " 5 ] "}, {"may weigh 5 ", BEHIND}, {"may all everyone ", BEHIND},
      {"may any [5] ", BEHIND}, {"may (weigh 5) ", BEHIND}, {"may not weigh 5 ", BEHIND},
      {"may (weigh 5 ", " or and ) "}, {"may (any [5] ", " or and ) "},
      {"may ((weigh 5) ", " or and ) "}, {"may weigh 5 or ", OPERAND},
      {"may weigh 5 and ", OPERAND}, {"may not ", OPERAND}, {"may not not ", OPERAND},
      {"may (", OPERAND}, {"may weigh 5 never ", OPERAND}, {"may weigh 5 or weigh 5 ", BEHIND},
      {"may weigh 5 and weigh 5 ", BEHIND}, {"may weigh 5 never weigh 5 ", " or and "},
      {"may weigh 5 never (weigh 5 ", " or and ) "}, {"may weigh 5 never not weigh 5 ", " or and "},
      {"may weigh 5 never weigh 5 or ", OPERAND}, {"may weigh 5 never weigh 5 and ", OPERAND}};

  /** "the first TOKEN that can't stand there": each TOKEN at each place. */
  static void terms1EachTokenAtEachPlace() {
    String[] tokens = {"may", "never", "or", "and", "not", "least", "of", "all", "any", "weigh",
        "everyone", "5", "(", ")", "[", "]", "100", "x", "?"};
    for (String[] place : PLACES) {
      for (String token : tokens) {
        ElderChest x = new ElderChest();
        String text = place[0] + token;
        int answer = Due.read(x, text);
        // One that can stand there ends a TEXT, or has this end too early.
        boolean stands = answer == 0 || answer == -1 - text.length();
        boolean can = place[1].contains(" " + token + " ");
        Due.due("Terms 1, 7: '" + text + "' can stand", stands ? 1 : 0, can ? 1 : 0);
        Due.due("Terms 1, 7: '" + text + "', place", can || answer == -1 - place[0].length());
      }
    }
  }

  /** A FAULT leaves nothing for the next TEXT, however many there were. */
  static void terms1TextsBehindFaults() {
    ElderChest x = Due.withElders(1);
    String early = "may " + "weigh 0 or ".repeat(10);
    for (int i = 0; i < 15; i++) {
      Due.due("Terms 1, 7: a FAULT at the end", Due.read(x, early), -1 - early.length());
    }
    String whole = "may " + "weigh 2or ".repeat(11) + "any[0]";
    for (int i = 0; i < 8; i++) {
      Due.due("Terms 1, 7: the TEXT " + i, Due.read(x, whole), i);
      Due.due("Terms 1, 9: {0} by " + i, x.may(i, 1), 1);
      Due.due("Terms 1, 9: the empty SET by " + i, x.may(i, 0), 0);
    }
  }

  /** "a WORD that is none of these: its own": each WORD less or more by a letter. */
  static void terms1OtherWords() {
    String[] words = {"may", "never", "or", "and", "not", "least", "of", "all", "any", "weigh",
        "everyone"};
    String[] texts = {"may weigh 1", "may weigh 1 never weigh 1", "may weigh 1 or weigh 1",
        "may weigh 1 and weigh 1", "may not weigh 1", "may least 1 of [0]", "may least 1 of [0]",
        "may all [0]", "may any [0]", "may weigh 1", "may any everyone"};
    for (int i = 0; i < words.length; i++) {
      String word = words[i];
      int at = texts[i].indexOf(word);
      String less = word.substring(0, word.length() - 1);
      String other = word.substring(1);
      for (String none : new String[] {less, other, word + "s", "x" + word, word + word,
          less + "q", "q" + other}) {
        faultAt(texts[i].substring(0, at) + none + texts[i].substring(at + word.length()), at);
      }
      faultAt(texts[i], -1);
    }
  }

  /** "a not or ( while 6 of these are open": the sixth is taken, the seventh isn't. */
  static void terms1SixOpen() {
    // Each bit of kinds tells whether a ( or a not stands there.
    for (int kinds = 0; kinds < 128; kinds++) {
      StringBuilder text = new StringBuilder("may ");
      StringBuilder close = new StringBuilder();
      int seventh = 0;
      for (int i = 0; i < 7; i++) {
        seventh = text.length();
        boolean bracket = (kinds >> i & 1) != 0;
        text.append(bracket ? "(" : "not ");
        close.append(bracket ? ")" : "");
        if (i == 5) {
          faultAt(text + "weigh 1" + close, -1);
        }
      }
      faultAt(text + "weigh 1" + close, seventh);
    }
  }

  /** "(a not till its NOT ends, a ( till its ) )": then there is room again. */
  static void terms1OpenTillItEnds() {
    faultAt("may ((((((weigh 1)and(weigh 1)))or((weigh 1)))))", -1);
    faultAt("may not not not not not not weigh 1 and not not not not not not weigh 1", -1);
    faultAt("may (((((not weigh 1 and not weigh 1 or not weigh 1)))))", -1);
    faultAt("may (((((not weigh 1 and not not weigh 1)))))", 29);
    faultAt("may not (((((weigh 1))))) and ((((((weigh 1))))))", -1);
    faultAt("may not (((((weigh 1))))) and (((((((weigh 1)))))))", 36);
    faultAt("may not not not(((weigh 1)))or not not not(((weigh 1)))", -1);
    faultAt("may ((((((weigh 1)))))) never ((((((weigh 1))))))", -1);
    faultAt("may ((((((weigh 1)))))) never (((((((weigh 1)))))))", 36);
    faultAt("may weigh 1 never not not not not not not weigh 1", -1);
    faultAt("may weigh 1 never not not not not not not not weigh 1", 42);
    faultAt("may not((((weigh 1)and(weigh 1))and(((weigh 1)))))", -1);
    faultAt("may not((((weigh 1)and(weigh 1))and((((weigh 1))))))", 38);
  }

  /** "or how many bytes there are if it ends too early" */
  static void terms1EndsTooEarly() {
    String whole = "may ( not least 1 of [ 0 ] and all everyone ) never weigh 9";
    faultAt(whole, -1);
    for (int end = 0; end < whole.length(); end++) {
      String part = whole.substring(0, end);
      boolean inWord = end > 0 && part.charAt(end - 1) != ' ' && whole.charAt(end) != ' ';
      // A WORD that is cut off is none of these.
      int fault = inWord ? part.lastIndexOf(' ') + 1 : end;
      boolean isText = part.trim().endsWith("everyone )");
      faultAt(part, isText ? -1 : fault);
    }
  }

  // ---- 1: which SETS MAY

  private static void mayIs(ElderChest x, int set, boolean due, String text) {
    Due.due("Terms 1, 9: SET " + set + " by " + text, x.may(0, set), due ? 1 : 0);
  }

  /** "least N of PART: it has N of PART or more" */
  static void terms1LeastOf() {
    for (int n = 0; n <= 12; n++) {
      String text = "may least " + n + " of everyone";
      ElderChest x = Bounds.withText(10, text);
      for (int set : new int[] {0, 1, 3, 512, 511, 1022, 1023}) {
        mayIs(x, set, Integer.bitCount(set) >= n, text);
      }
      text = "may least " + n + " of [0 9 5]";
      x = Bounds.withText(10, text);
      for (int set : new int[] {0, 1, 32, 512, 33, 513, 545, 478, 1023}) {
        mayIs(x, set, Integer.bitCount(set & 545) >= n, text);
      }
    }
    ElderChest twice = Bounds.withText(10, "may least 2 of [9 9 0]");
    mayIs(twice, 512, false, "one told twice");
    mayIs(twice, 513, true, "one told twice, and another one");
    ElderChest all = Bounds.withText(10, "may least 99 of everyone");
    mayIs(all, 1023, false, "99");
    ElderChest few = Bounds.withText(3, "may least 1 of [3 9]");
    mayIs(few, 7, false, "those who aren't there");
    ElderChest gone = Bounds.withText(3, "may least 2 of [0 1 2]");
    gone.gone(1, true);
    mayIs(gone, 3, false, "one GONE");
    mayIs(gone, 7, true, "one GONE, besides two");
  }

  /** "all PART: it has all of PART that aren't GONE, nor missing" */
  static void terms1AllOf() {
    ElderChest x = Bounds.withText(3, "may all [0 2]");
    for (int set = 0; set < 8; set++) {
      mayIs(x, set, (set & 5) == 5, "all [0 2]");
    }
    x.gone(2, true);
    mayIs(x, 1, true, "all [0 2] without 2");
    mayIs(x, 2, false, "all [0 2] without 2");
    x.gone(0, true);
    mayIs(x, 0, true, "all [0 2], both GONE");
    ElderChest missing = Bounds.withText(3, "may all [3 9]");
    mayIs(missing, 0, true, "all of those who are missing");
    missing.elder(0);
    mayIs(missing, 7, false, "one of them came");
    mayIs(missing, 8, true, "who is in it");
    ElderChest none = Bounds.withText(0, "may all everyone");
    mayIs(none, 0, true, "all of none");
    ElderChest all = Bounds.withText(10, "may all everyone");
    mayIs(all, 1023, true, "all everyone");
    for (int elder = 0; elder < 10; elder++) {
      mayIs(all, 1023 - (1 << elder), false, "all everyone");
    }
  }

  /** "any PART: it has one of PART" */
  static void terms1AnyOf() {
    ElderChest x = Bounds.withText(10, "may any [0 9]");
    for (int set : new int[] {0, 1, 512, 513, 510, 1023}) {
      mayIs(x, set, (set & 513) != 0, "any [0 9]");
    }
    x.gone(9, true);
    mayIs(x, 512, false, "any of one GONE");
    x.gone(0, true);
    mayIs(x, 1023, false, "any of those GONE");
    mayIs(Bounds.withText(3, "may any [3]"), 7, false, "any of those missing");
    mayIs(Bounds.withText(0, "may any everyone"), 0, false, "any of none");
    ElderChest all = Bounds.withText(10, "may any everyone");
    mayIs(all, 0, false, "any everyone");
    for (int elder = 0; elder < 10; elder++) {
      mayIs(all, 1 << elder, true, "any everyone");
    }
  }

  /** "weigh N: WEIGHTS of it together are N or more" */
  static void terms1Weigh() {
    ElderChest x = new ElderChest();
    for (int i = 0; i < 10; i++) {
      x.elder(9);
    }
    Due.read(x, "may weigh 90");
    Due.read(x, "may weigh 91");
    Due.read(x, "may weigh 0");
    Due.read(x, "may weigh 9");
    Due.read(x, "may weigh 10");
    Due.read(x, "may weigh 99");
    long[][] due = {{1, 0, 1, 1, 1, 0}, {0, 0, 1, 1, 1, 0}, {0, 0, 1, 1, 0, 0}, {0, 0, 1, 0, 0, 0}};
    int[] sets = {1023, 1022, 512, 0};
    for (int i = 0; i < sets.length; i++) {
      for (int text = 0; text < 6; text++) {
        Due.due("Terms 1, 9: SET " + sets[i] + " by " + text, x.may(text, sets[i]), due[i][text]);
      }
    }
    x.gone(4, true);
    Due.due("Terms 1, 9: one GONE weighs nothing", x.may(0, 1023), 0);
    Due.due("Terms 1, 9: weigh 9 of one GONE", x.may(3, 1 << 4), 0);
    ElderChest light = Bounds.withText(10, "may weigh 1");
    mayIs(light, 1023, false, "WEIGHTS of 0");
  }

  /** "It MAY by a TEXT if E of may holds, and E of never, if there is one, doesn't." */
  static void terms1Never() {
    String[] texts = {"may weigh 0", "may weigh 9", "may weigh 0 never weigh 0",
        "may weigh 0 never weigh 9", "may weigh 9 never weigh 0", "may weigh 9 never weigh 9"};
    boolean[] due = {true, false, false, true, false, false};
    for (int i = 0; i < texts.length; i++) {
      mayIs(Bounds.withText(0, texts[i]), 0, due[i], texts[i]);
    }
  }

  /** or binds less than and, that less than not; each depth that can be is worked out. */
  static void terms1WorkedOut() {
    String yes = "weigh 0";
    String no = "weigh 9";
    String[] hold = {"may Y or N and N", "may N and N or Y", "may not N and Y", "may not not Y",
        "may not(N and Y)", "may not(N or N)and Y", "may N or N or Y", "may Y and Y and Y",
        "may((((((Y))))))", "may not not not not not not Y", "may N or(N or(N or(N or(N or(Y)))))",
        "may Y and(Y and(Y and(Y and(Y and(Y and Y)))))", "may Y never N or N and Y"};
    String[] fail = {"may(Y or N)and N", "may not Y or N", "may not(Y and Y)", "may not not not Y",
        "may Y and Y and N", "may N or N or N", "may not not not not not not N",
        "may Y and(Y and(Y and(Y and(Y and(N)))))", "may Y never N or Y", "may Y never not N"};
    for (String text : hold) {
      String told = text.replace("Y", yes).replace("N", no);
      mayIs(Bounds.withText(0, told), 0, true, told);
    }
    for (String text : fail) {
      String told = text.replace("Y", yes).replace("N", no);
      mayIs(Bounds.withText(0, told), 0, false, told);
    }
  }
}
