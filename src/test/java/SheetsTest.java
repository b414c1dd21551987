/** Promises 37 to 39: sheet, write, copy. */
final class SheetsTest {
  public static void main(String[] args) {
    promise37Sheet();
    promise38Write();
    promise38Bits();
    promise39Copy();
    promise39Findings();
    Due.end("SheetsTest");
  }

  private static void promise37Sheet() {
    ElderChest x = new ElderChest();
    for (int bits : new int[] {8, 16, 64}) {
      for (int n : new int[] {0, 1, 40}) {
        Due.due("37: sheet(0, " + bits + ", " + n + ")", x.sheet(0, bits, n), n);
      }
    }
    Due.due("37: it has 40", x.write(0, 39, 5), 0);
    Due.due("37: made anew", x.sheet(0, 64, 40), 40);
    Due.due("37: all are 0", x.write(0, 39, 5), 0);
    Due.due("37: bits 0", x.sheet(0, 0, 7), 0);
    Due.due("37: it is MISSING", x.write(0, 0, 0), Due.MISSING);
    Due.due("37: made after that", x.sheet(0, 64, 40), 40);
    Due.due("37: all are 0 then", x.write(0, 39, 0), 0);
    for (int s : new int[] {-1, 4, Integer.MIN_VALUE, Integer.MAX_VALUE}) {
      Due.due("37: sheet(" + s + ", 8, 1)", x.sheet(s, 8, 1), Due.BEYOND);
      Due.due("37: BEYOND ahead of SIZE", x.sheet(s, 8, -1), Due.BEYOND);
    }
    for (int bits : new int[] {-1, 1, 7, 24, 32, 63, 65, 128, Integer.MIN_VALUE}) {
      Due.due("37: sheet(1, " + bits + ", 1)", x.sheet(1, bits, 1), Due.BEYOND);
      Due.due("37: BEYOND ahead of SIZE, bits", x.sheet(1, bits, -1), Due.BEYOND);
    }
    for (int bits : new int[] {0, 8, 16, 64}) {
      Due.due("37: SIZE", x.sheet(0, bits, -1), Due.SIZE);
      Due.due("37: SIZE, MIN", x.sheet(0, bits, Integer.MIN_VALUE), Due.SIZE);
      Due.due("37: n 41", x.sheet(0, bits, 41), Due.BEYOND);
      Due.due("37: n MAX", x.sheet(0, bits, Integer.MAX_VALUE), Due.BEYOND);
    }
    Due.due("37: a finding leaves the sheet", x.write(0, 39, 0), 0);
    Due.due("37: SIZE so often", x.status(6), 8);
  }

  private static void promise38Write() {
    ElderChest x = new ElderChest();
    Due.due("38: BEYOND, sheet", x.write(4, 0, 0), Due.BEYOND);
    Due.due("38: BEYOND, sheet -1", x.write(-1, 0, 0), Due.BEYOND);
    Due.due("38: MISSING", x.write(3, 0, 0), Due.MISSING);
    Due.due("38: MISSING ahead of BEYOND", x.write(3, -1, 0), Due.MISSING);
    x.sheet(3, 16, 2);
    Due.due("38: BEYOND, number", x.write(3, 2, 9), Due.BEYOND);
    Due.due("38: BEYOND, number -1", x.write(3, -1, 9), Due.BEYOND);
    Due.due("38: BEYOND, number MAX", x.write(3, Integer.MAX_VALUE, 9), Due.BEYOND);
    Due.due("38: write(3, 1, 9)", x.write(3, 1, 9), 0);
    Due.due("38: write(3, 1, 8)", x.write(3, 1, 8), 9);
    Due.due("38: write(3, 0, 7)", x.write(3, 0, 7), 0);
    Due.due("38: write(3, 1, 0)", x.write(3, 1, 0), 8);
    x.sheet(2, 8, 0);
    Due.due("38: an empty one is not MISSING", x.write(2, 0, 1), Due.BEYOND);
  }

  private static void promise38Bits() {
    long[] values = {0, 1, 100, 127, 256, 300, 0x1234, 0x7FFF, 0x10001, 1L << 40 | 77, -1,
        Long.MIN_VALUE, Long.MAX_VALUE, 200, 0x8000, Due.BEYOND};
    ElderChest x = new ElderChest();
    x.sheet(0, 8, 1);
    x.sheet(1, 16, 1);
    x.sheet(2, 64, 1);
    for (long v : values) {
      x.write(0, 0, v);
      x.write(1, 0, v);
      x.write(2, 0, v);
      Due.due("38: " + v + " as 8 bits", x.write(0, 0, 0), (byte) v);
      Due.due("38: " + v + " as 16 bits", x.write(1, 0, 0), (short) v);
      Due.due("38: " + v + " as 64 bits", x.write(2, 0, 0), v);
    }
    Due.due("38: a number that looks like a finding is none", x.status(-1), 0);
  }

  private static ElderChest counted() {
    ElderChest x = new ElderChest();
    x.sheet(0, 64, 10);
    x.sheet(1, 64, 5);
    for (int i = 0; i < 10; i++) {
      x.write(0, i, i + 1);
    }
    return x;
  }

  private static void numbersAre(String call, ElderChest x, int s, long... numbers) {
    for (int i = 0; i < numbers.length; i++) {
      Due.due(call + ", " + i, x.write(s, i, numbers[i]), numbers[i]);
    }
  }

  private static void promise39Copy() {
    ElderChest x = counted();
    Due.due("39: copy(0, 7, 1, 1, 3)", x.copy(0, 7, 1, 1, 3), 3);
    numbersAre("39: to the other one", x, 1, 0, 8, 9, 10, 0);
    numbersAre("39: from that one", x, 0, 1, 2, 3, 4, 5, 6, 7, 8, 9, 10);
    Due.due("39: onward in itself", x.copy(0, 0, 0, 2, 8), 8);
    numbersAre("39: as they all were", x, 0, 1, 2, 1, 2, 3, 4, 5, 6, 7, 8);
    x = counted();
    Due.due("39: back in itself", x.copy(0, 3, 0, 1, 7), 7);
    numbersAre("39: as they all were, back", x, 0, 1, 4, 5, 6, 7, 8, 9, 10, 9, 10);
    Due.due("39: none", x.copy(0, 0, 1, 0, 0), 0);
    Due.due("39: none at the end", x.copy(0, 10, 1, 5, 0), 0);
    Due.due("39: the whole", x.copy(0, 5, 1, 0, 5), 5);
    numbersAre("39: the whole", x, 1, 8, 9, 10, 9, 10);
  }

  private static void promise39Findings() {
    ElderChest x = counted();
    int max = Integer.MAX_VALUE;
    int min = Integer.MIN_VALUE;
    int[][] none = {{-1, 0}, {4, 0}, {0, -1}, {0, 4}, {max, min}};
    for (int[] pair : none) {
      Due.due("39: no such sheet", x.copy(pair[0], 0, pair[1], 0, 1), Due.BEYOND);
    }
    Due.due("39: BEYOND ahead of MISSING", x.copy(2, 0, 4, 0, 1), Due.BEYOND);
    Due.due("39: MISSING, the first", x.copy(2, 0, 0, 0, 1), Due.MISSING);
    Due.due("39: MISSING, the other", x.copy(0, 0, 2, 0, 1), Due.MISSING);
    Due.due("39: MISSING ahead of BEYOND", x.copy(0, -1, 2, 0, 1), Due.MISSING);
    x.sheet(2, 16, 5);
    Due.due("39: KIND", x.copy(0, 0, 2, 0, 1), Due.KIND);
    Due.due("39: KIND, even of none", x.copy(2, 0, 0, 0, 0), Due.KIND);
    Due.due("39: KIND ahead of BEYOND", x.copy(2, 0, 0, -1, 1), Due.KIND);
    int[][] wrong = {{-1, 0, 1}, {0, -1, 1}, {0, 0, -1}, {6, 0, 5}, {0, 1, 5}, {0, 0, 6},
        {10, 0, 1}, {0, 5, 1}, {11, 0, 0}, {0, 6, 0}, {max, 0, 1}, {0, max, 1}, {1, 1, max},
        {max, max, max}, {min, 0, 1}, {0, min, 1}, {0, 0, min}, {min, min, min}, {max, 0, 0}};
    for (int[] w : wrong) {
      Due.due("39: copy(0, " + w[0] + ", 1, " + w[1] + ", " + w[2] + ")",
          x.copy(0, w[0], 1, w[1], w[2]), Due.BEYOND);
    }
    numbersAre("39: findings copy nothing", x, 1, 0, 0, 0, 0, 0);
  }
}
