/** Promises 37 to 39 and Terms, section 4, at their bounds: sheets. */
final class BoundsSheetsTest {
  private static final int MIN = Integer.MIN_VALUE;
  private static final int MAX = Integer.MAX_VALUE;

  public static void main(String[] args) {
    Due.runAll(BoundsSheetsTest.class);
  }

  // ---- Terms 4: "SHEETS 0 to 3 are rows of at most 40 numbers of 8, 16 or 64 bits, or MISSING (at
  // first)."

  static void terms4MissingAtFirst() {
    for (int s = -2; s <= 5; s++) {
      boolean is = s >= 0 && s <= 3;
      Due.due("Terms 4: sheet " + s, new ElderChest().write(s, 0, 0),
          is ? Due.MISSING : Due.BEYOND);
    }
  }

  static void terms4AtMostForty() {
    for (int bits : new int[] {8, 16, 64}) {
      for (int s = 0; s < 4; s++) {
        ElderChest x = new ElderChest();
        Due.due("Terms 4: 41 numbers", x.sheet(s, bits, 41), Due.BEYOND);
        Due.due("Terms 4: it is MISSING still", x.write(s, 0, 0), Due.MISSING);
        Due.due("Terms 4: 40 numbers", x.sheet(s, bits, 40), 40);
        Due.due("Terms 4: the first", x.write(s, 0, 1), 0);
        Due.due("Terms 4: the last", x.write(s, 39, 1), 0);
        Due.due("Terms 4: none behind it", x.write(s, 40, 1), Due.BEYOND);
      }
    }
  }

  static void terms4SheetsAreApart() {
    ElderChest x = new ElderChest();
    for (int s = 0; s < 4; s++) {
      x.sheet(s, 64, 2);
      x.write(s, 1, 100 + s);
    }
    x.sheet(2, 0, 0);
    x.sheet(1, 8, 2);
    long[] due = {100, 0, Due.MISSING, 103};
    for (int s = 0; s < 4; s++) {
      Due.due("Terms 4: sheet " + s, x.write(s, 1, 0), due[s]);
    }
  }

  // ---- 37: "A sheet has n numbers, all 0, of 8, 16 or 64 bits; bits 0: it is MISSING: n (0 if it is
  // MISSING). BEYOND: no such sheet, other bits. SIZE: n is below 0 (also with bits 0). BEYOND: n is
  // above 40."

  static void promise37Sheet() {
    for (int bits : new int[] {0, 8, 16, 64}) {
      Bounds.range("37: sheet", 0, 3, Bounds::some, (x, s) -> x.sheet(s, bits, 3));
      Bounds.range("37: sheet", 0, 3, Bounds::nothing, (x, s) -> x.sheet(s, bits, 0));
    }
  }

  static void promise37Bits() {
    for (int bits = -70; bits <= 140; bits++) {
      int asked = bits;
      boolean taken = bits == 0 || bits == 8 || bits == 16 || bits == 64;
      if (taken) {
        Due.due("37: bits " + bits, new ElderChest().sheet(0, bits, 2), bits == 0 ? 0 : 2);
      } else {
        Bounds.refused("37: bits " + bits, Due.BEYOND, Bounds::some, x -> x.sheet(0, asked, 2));
      }
    }
    for (int bits : new int[] {MIN, MAX, MIN | 8, 1 << 16 | 16, 256 + 8, 256 + 64}) {
      Bounds.refused("37: bits " + bits, Due.BEYOND, Bounds::some, x -> x.sheet(0, bits, 2));
    }
  }

  static void promise37HowMany() {
    for (int bits : new int[] {0, 8, 16, 64}) {
      for (int n : new int[] {0, 1, 39, 40}) {
        Due.due("37: n " + n, new ElderChest().sheet(3, bits, n), bits == 0 ? 0 : n);
      }
      for (int n : new int[] {-1, -2, -40, MIN}) {
        Bounds.refused("37: n " + n, Due.SIZE, Bounds::some, x -> x.sheet(1, bits, n));
      }
      for (int n : new int[] {41, 42, 64, 1 << 16, MAX}) {
        Bounds.refused("37: n " + n, Due.BEYOND, Bounds::some, x -> x.sheet(1, bits, n));
      }
    }
  }

  static void promise37BeyondAheadOfSize() {
    for (int n : new int[] {-1, MIN}) {
      for (int s : new int[] {-1, 4}) {
        Bounds.refused("37: no such sheet", Due.BEYOND, Bounds::some, x -> x.sheet(s, 8, n));
      }
      for (int bits : new int[] {-1, 1, 32}) {
        Bounds.refused("37: other bits", Due.BEYOND, Bounds::some, x -> x.sheet(0, bits, n));
      }
    }
  }

  static void promise37AllNought() {
    ElderChest x = new ElderChest();
    int[] bits = {64, 8, 16, 64};
    for (int anew : bits) {
      Due.due("37: 40 numbers", x.sheet(0, anew, 40), 40);
      for (int i = 0; i < 40; i++) {
        Due.due("37: number " + i, x.write(0, i, -1 - i), 0);
      }
    }
    x.sheet(0, 64, 1);
    Due.due("37: fewer, 0", x.write(0, 0, 5), 0);
    x.sheet(0, 64, 40);
    Due.due("37: more, 0", x.write(0, 39, 5), 0);
  }

  static void promise37Missing() {
    ElderChest x = Bounds.made(Bounds::some);
    Due.due("37: bits 0", x.sheet(0, 0, 40), 0);
    Due.due("37: it is MISSING", x.write(0, 0, 0), Due.MISSING);
    Due.due("37: once more", x.sheet(0, 0, 0), 0);
    Due.due("37: made anew", x.sheet(0, 8, 1), 1);
    Due.due("37: all 0", x.write(0, 0, 9), 0);
    Due.due("37: of none, it isn't MISSING", x.sheet(0, 8, 0), 0);
    Due.due("37: but has no number", x.write(0, 0, 9), Due.BEYOND);
  }

  // ---- 38: "Number i of a sheet becomes v (its lowest bits): what it was. BEYOND: no such sheet.
  // MISSING. BEYOND: no such number."

  static void promise38Sheet() {
    Bounds.range("38: sheet", 0, 3, Bounds::some, (x, s) -> x.write(s, 0, 9));
    for (int s : new int[] {-1, 4, MIN, MAX}) {
      Bounds.refused("38: no such sheet, no number", Due.BEYOND, Bounds::some,
          x -> x.write(s, -1, 9));
    }
  }

  static void promise38Missing() {
    for (int i : new int[] {0, 39}) {
      Bounds.refused("38: MISSING", Due.MISSING, Bounds::some, x -> x.write(3, i, 9));
    }
    for (int i : new int[] {-1, 40, MIN, MAX}) {
      Bounds.refused("38: MISSING ahead of BEYOND", Due.MISSING, Bounds::some,
          x -> x.write(3, i, 9));
    }
  }

  static void promise38Number() {
    for (int s = 0; s < 3; s++) {
      int one = s;
      Bounds.range("38: number", 0, 2, Bounds::some, (x, i) -> x.write(one, i, 9));
      Bounds.range("38: number", 0, 39, x -> x.sheet(one, 64, 40), (x, i) -> x.write(one, i, 9));
      Bounds.range("38: number", 0, -1, x -> x.sheet(one, 8, 0), (x, i) -> x.write(one, i, 9));
    }
    // A sheet that became shorter has no numbers behind its end.
    Bounds.range("38: number", 0, 1, x -> {
      x.sheet(0, 64, 40);
      x.sheet(0, 64, 2);
    }, (x, i) -> x.write(0, i, 9));
  }

  private static void wraps(int bits, long v, long due) {
    ElderChest x = new ElderChest();
    x.sheet(1, bits, 3);
    Due.due("38: write of " + v, x.write(1, 1, v), 0);
    Due.due("38: " + v + " as " + bits + " bits", x.write(1, 1, 0), due);
    Due.due("38: beside it", x.write(1, 0, 0), 0);
    Due.due("38: behind it", x.write(1, 2, 0), 0);
    Due.due("38: no finding", x.status(-1), 0);
  }

  /** The lowest bits, read with their sign as a byte is. */
  static void promise38EightBits() {
    long[][] pairs = {{0, 0}, {1, 1}, {127, 127}, {128, -128}, {129, -127}, {255, -1}, {256, 0},
        {257, 1}, {-1, -1}, {-128, -128}, {-129, 127}, {-256, 0}, {-257, -1}, {0x1234, 0x34},
        {Long.MAX_VALUE, -1}, {Long.MIN_VALUE, 0}, {1L << 32 | 7, 7}};
    for (long[] pair : pairs) {
      wraps(8, pair[0], pair[1]);
    }
  }

  static void promise38SixteenBits() {
    long[][] pairs = {{0, 0}, {255, 255}, {256, 256}, {32767, 32767}, {32768, -32768},
        {32769, -32767}, {65535, -1}, {65536, 0}, {65537, 1}, {-1, -1}, {-32768, -32768},
        {-32769, 32767}, {-65536, 0}, {Long.MAX_VALUE, -1}, {Long.MIN_VALUE, 0}, {1L << 32 | 7, 7}};
    for (long[] pair : pairs) {
      wraps(16, pair[0], pair[1]);
    }
  }

  static void promise38SixtyfourBits() {
    long[] numbers = {0, -1, 255, 65536, 1L << 31, 1L << 32, -(1L << 31) - 1, Long.MAX_VALUE,
        Long.MIN_VALUE, Due.BEYOND, Due.SIZE};
    for (long v : numbers) {
      wraps(64, v, v);
    }
  }

  // ---- 39: "n numbers of a sheet from one on come to another one from one on (as they all were): n.
  // BEYOND: no such sheet (either). MISSING: one is. KIND: .. BEYOND: one has not so many, or from, to
  // or n is below 0."

  /** Sheets 0 and 1 of 64 bits with 40 and 5 numbers, sheet 2 of 8 bits with 40, sheet 3 MISSING. */
  private static void sheets(ElderChest x) {
    x.sheet(0, 64, 40);
    x.sheet(1, 64, 5);
    x.sheet(2, 8, 40);
    for (int i = 0; i < 40; i++) {
      x.write(0, i, i + 1);
    }
  }

  private static void numbersAre(String call, ElderChest x, int s, long... numbers) {
    for (int i = 0; i < numbers.length; i++) {
      Due.due(call + ", number " + i, x.write(s, i, numbers[i]), numbers[i]);
    }
  }

  static void promise39Sheets() {
    Bounds.range("39: from sheet", 0, 3, BoundsSheetsTest::sheets, (x, s) -> x.copy(s, 0, 1, 0, 1));
    Bounds.range("39: to sheet", 0, 3, BoundsSheetsTest::sheets, (x, t) -> x.copy(0, 0, t, 0, 1));
    Bounds.range("39: both", 0, 3, BoundsSheetsTest::sheets, (x, s) -> x.copy(s, 0, s, 0, 1));
  }

  static void promise39BeyondAheadOfMissing() {
    Bounds.refused("39: to", Due.BEYOND, BoundsSheetsTest::sheets, x -> x.copy(3, 0, 4, 0, 1));
    Bounds.refused("39: from", Due.BEYOND, BoundsSheetsTest::sheets, x -> x.copy(-1, 0, 3, 0, 1));
  }

  static void promise39Missing() {
    int[][] pairs = {{0, 3}, {3, 0}, {3, 3}, {2, 3}};
    for (int[] pair : pairs) {
      for (int n : new int[] {0, 1}) {
        Bounds.refused("39: MISSING", Due.MISSING, BoundsSheetsTest::sheets,
            x -> x.copy(pair[0], 0, pair[1], 0, n));
      }
      Bounds.refused("39: MISSING ahead of BEYOND", Due.MISSING, BoundsSheetsTest::sheets,
          x -> x.copy(pair[0], -1, pair[1], 41, MAX));
    }
  }

  static void promise39Kind() {
    int[][] pairs = {{0, 2}, {2, 0}, {1, 2}, {2, 1}};
    for (int[] pair : pairs) {
      for (int n : new int[] {0, 1}) {
        Bounds.refused("39: KIND", Due.KIND, BoundsSheetsTest::sheets,
            x -> x.copy(pair[0], 0, pair[1], 0, n));
      }
      Bounds.refused("39: KIND ahead of BEYOND", Due.KIND, BoundsSheetsTest::sheets,
          x -> x.copy(pair[0], -1, pair[1], 41, -1));
    }
    Bounds.refused("39: 16 and 8 bits", Due.KIND, Bounds::some, x -> x.copy(0, 0, 1, 0, 1));
    Bounds.refused("39: 16 and 64 bits", Due.KIND, Bounds::some, x -> x.copy(1, 0, 2, 0, 1));
  }

  static void promise39From() {
    Bounds.range("39: from, of 0", 0, 40, BoundsSheetsTest::sheets,
        (x, from) -> x.copy(0, from, 1, 0, 0));
    Bounds.range("39: from, of 1", 0, 39, BoundsSheetsTest::sheets,
        (x, from) -> x.copy(0, from, 1, 0, 1));
    Bounds.range("39: from, of 5", 0, 35, BoundsSheetsTest::sheets,
        (x, from) -> x.copy(0, from, 1, 0, 5));
  }

  static void promise39To() {
    Bounds.range("39: to, of 0", 0, 5, BoundsSheetsTest::sheets, (x, to) -> x.copy(0, 0, 1, to, 0));
    Bounds.range("39: to, of 1", 0, 4, BoundsSheetsTest::sheets, (x, to) -> x.copy(0, 0, 1, to, 1));
    Bounds.range("39: to, of 5", 0, 0, BoundsSheetsTest::sheets, (x, to) -> x.copy(0, 0, 1, to, 5));
  }

  static void promise39HowMany() {
    Bounds.range("39: n to five", 0, 5, BoundsSheetsTest::sheets, (x, n) -> x.copy(0, 0, 1, 0, n));
    Bounds.range("39: n from five", 0, 5, BoundsSheetsTest::sheets, (x, n) -> x.copy(1, 0, 0, 0, n));
    Bounds.range("39: n of forty", 0, 40, BoundsSheetsTest::sheets, (x, n) -> x.copy(0, 0, 0, 0, n));
    Bounds.range("39: n behind 3", 0, 2, BoundsSheetsTest::sheets, (x, n) -> x.copy(0, 0, 1, 3, n));
    Bounds.range("39: n at the end", 0, 0, BoundsSheetsTest::sheets,
        (x, n) -> x.copy(0, 40, 1, 5, n));
    Bounds.range("39: n of none", 0, 0, x -> {
      x.sheet(0, 16, 0);
      x.sheet(1, 16, 0);
    }, (x, n) -> x.copy(0, 0, 1, 0, n));
  }

  /** Sums that wrap around: from and n, or to and n, together are beyond int. */
  static void promise39SumsThatWrap() {
    int[][] wrong = {{1, 0, MAX}, {MAX, 0, MAX}, {MAX, 0, 1}, {0, MAX, 1}, {0, 1, MAX}, {MAX, MAX, 2},
        {MIN, MIN, MIN}, {MIN, 0, MAX}, {MAX, 0, MIN}, {-1, 0, 2}, {0, -1, 2}, {2, 2, -2}};
    for (int[] w : wrong) {
      Bounds.refused("39: copy(0, " + w[0] + ", 1, " + w[1] + ", " + w[2] + ")", Due.BEYOND,
          BoundsSheetsTest::sheets, x -> x.copy(0, w[0], 1, w[1], w[2]));
    }
  }

  static void promise39WhatComes() {
    ElderChest x = Bounds.made(BoundsSheetsTest::sheets);
    Due.due("39: none", x.copy(0, 40, 1, 5, 0), 0);
    numbersAre("39: none came", x, 1, 0, 0, 0, 0, 0);
    Due.due("39: the last to the last", x.copy(0, 39, 1, 4, 1), 1);
    numbersAre("39: one came", x, 1, 0, 0, 0, 0, 40);
    Due.due("39: the last five", x.copy(0, 35, 1, 0, 5), 5);
    numbersAre("39: five came", x, 1, 36, 37, 38, 39, 40);
    Due.due("39: back", x.copy(1, 0, 0, 0, 5), 5);
    numbersAre("39: five came back", x, 0, 36, 37, 38, 39, 40, 6);
  }

  /** "(as they all were)": in one sheet, onward and back, by one and by all but one. */
  static void promise39AsTheyAllWere() {
    for (int by : new int[] {0, 1, 20, 39, 40}) {
      ElderChest onward = Bounds.made(BoundsSheetsTest::sheets);
      Due.due("39: onward by " + by, onward.copy(0, 0, 0, by, 40 - by), 40 - by);
      ElderChest back = Bounds.made(BoundsSheetsTest::sheets);
      Due.due("39: back by " + by, back.copy(0, by, 0, 0, 40 - by), 40 - by);
      for (int i = 0; i < 40; i++) {
        Due.due("39: onward by " + by + ", number " + i, onward.write(0, i, 0),
            i < by ? i + 1 : i - by + 1);
        Due.due("39: back by " + by + ", number " + i, back.write(0, i, 0),
            i < 40 - by ? i + by + 1 : i + 1);
      }
    }
  }
}
