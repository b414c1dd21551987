import java.util.ArrayList;
import java.util.List;
import java.util.Random;

/** Runs of random calls on an ElderChest and a PlainChest, which must answer alike. */
final class RandomRunsTest {
  private static final int RUNS = 320;
  /** The latest step of a run may go some calls beyond. */
  private static final int CALLS = 400;

  private final Random random;
  private final ElderChest chest = new ElderChest();
  private final PlainChest plain = new PlainChest();
  private final List<String> calls = new ArrayList<>();
  /** Runs with many ELDERS make few of the dear calls. */
  private final int mostElders;
  private final int mostKeys;
  private boolean apart;

  private RandomRunsTest(long seed) {
    random = new Random(seed);
    mostElders = 1 + random.nextInt(seed % 8 == 0 ? 10 : 6);
    mostKeys = 2 + random.nextInt(23);
    int atFirst = random.nextInt(mostElders + 1);
    for (int i = 0; i < atFirst; i++) {
      int weight = random.nextInt(10);
      same("elder(" + weight + ")", chest.elder(weight), plain.elder(weight));
    }
  }

  public static void main(String[] args) {
    for (int seed = 0; seed < RUNS; seed++) {
      RandomRunsTest run = new RandomRunsTest(seed);
      for (int i = 0; run.calls.size() < CALLS && i < 2 * CALLS && !run.apart; i++) {
        run.step(i);
      }
      if (run.apart) {
        System.out.println("run " + seed + ": " + String.join(", ", run.calls));
      }
      Due.due("run " + seed, !run.apart);
    }
    Due.end("RandomRunsTest");
  }

  private void same(String call, long got, long want) {
    calls.add(call + "=" + got);
    if (got != want) {
      apart = true;
      System.out.println(call + " answered " + got + ", due is " + want);
    }
  }

  /** A number up to one that is there, at times one beyond or any. */
  private int upTo(int many) {
    int dice = random.nextInt(60);
    if (dice == 0) {
      return many;
    }
    if (dice == 1) {
      return -1;
    }
    if (dice == 2) {
      int[] far = {Integer.MIN_VALUE, Integer.MAX_VALUE, -2, 10, 24, 32, 40, 64, 1 << 20};
      return far[random.nextInt(far.length)];
    }
    return many <= 0 ? 0 : random.nextInt(many);
  }

  private int anElder() {
    return upTo(plain.look(0));
  }

  private int aSet() {
    return upTo(1 << plain.look(0));
  }

  private int aHanging() {
    int many = plain.look(4);
    // The latest are those with most within.
    return random.nextBoolean() || many == 0 ? upTo(many) : many - 1 - random.nextInt((many + 3) / 4);
  }

  /** A BOX, if there is one near. */
  private int aBox() {
    int h = aHanging();
    for (int i = 0; i < 12 && h >= 0 && h < plain.look(4) && plain.hanging(h, 0) != 4; i++) {
      h = random.nextInt(plain.look(4));
    }
    return h;
  }

  /** A KEY on the RING of an ELDER, if there is one. */
  private int aKeyOf(int elder) {
    int ring = elder >= 0 && elder < plain.look(0) ? plain.of(elder, 2) : 0;
    for (int many = random.nextInt(24); many > 0 && Integer.bitCount(ring) > 1; many--) {
      ring &= ring - 1;
    }
    return ring == 0 || random.nextInt(8) == 0 ? aKey() : Integer.numberOfTrailingZeros(ring);
  }

  private int aKey() {
    return random.nextInt(8) == 0 ? upTo(24) : upTo(mostKeys);
  }

  private int anIndex() {
    return random.nextInt(3) == 0 ? -1 : random.nextInt(12) - (random.nextInt(20) == 0 ? 4 : 0);
  }

  private void step(int i) {
    int dice = random.nextInt(100);
    if (i < 40 ? dice < 75 : dice < 22) {
      fill();
    } else if (dice < 78) {
      ask();
    } else if (dice < 86) {
      onSheets();
    } else if (dice < 90) {
      onImages();
    } else {
      looks();
    }
  }

  private void fill() {
    switch (random.nextInt(12)) {
      case 0:
        if (plain.look(0) < mostElders || random.nextInt(40) == 0) {
          int weight = random.nextInt(20) == 0 ? upTo(10) : random.nextInt(10);
          same("elder(" + weight + ")", chest.elder(weight), plain.elder(weight));
        }
        break;
      case 1:
        readText();
        break;
      case 2:
      case 3:
        int key = aKey();
        boolean old = random.nextInt(3) == 0;
        same("lock(" + key + ", " + old + ")", chest.lock(key, old), plain.lock(key, old));
        break;
      case 4:
      case 5:
        int a = aHanging();
        int b = random.nextInt(6) == 0 ? a : aHanging();
        boolean row = random.nextBoolean();
        same("chain(" + a + ", " + b + ", " + row + ")", chest.chain(a, b, row),
            plain.chain(a, b, row));
        break;
      case 6:
        int about = aHanging();
        int inside = aKey();
        same("box(" + about + ", " + inside + ")", chest.box(about, inside),
            plain.box(about, inside));
        break;
      case 7:
        int elder = anElder();
        boolean gone = random.nextInt(4) == 0;
        same("gone(" + elder + ", " + gone + ")", chest.gone(elder, gone),
            plain.gone(elder, gone));
        break;
      case 8:
        lend();
        break;
      default:
        int whose = anElder();
        int which = aKey();
        boolean on = random.nextInt(4) != 0;
        same("key(" + whose + ", " + which + ", " + on + ")", chest.key(whose, which, on),
            plain.key(whose, which, on));
    }
  }

  private void lend() {
    int from = anElder();
    int to = anElder();
    int key = aKeyOf(from);
    same("lend(" + from + ", " + to + ", " + key + ")", chest.lend(from, to, key),
        plain.lend(from, to, key));
  }

  // ---- texts

  private void readText() {
    StringBuilder text = new StringBuilder("may ");
    either(text, 0);
    if (random.nextInt(4) == 0) {
      text.append(random.nextBoolean() ? " never " : "  never ");
      either(text, 1);
    }
    if (random.nextInt(4) == 0) {
      spoil(text);
    }
    if (text.length() > 120 && random.nextInt(4) != 0) {
      return;
    }
    for (int at = 0; at < text.length(); ) {
      int n = Math.min(1 + random.nextInt(4), text.length() - at);
      int bytes = random.nextInt();
      for (int i = 0; i < n; i++) {
        bytes = bytes << 8 | text.charAt(at + i);
      }
      same("feed(" + bytes + ", " + n + ")", chest.feed(bytes, n), plain.feed(bytes, n));
      at += n;
    }
    same("text()", chest.text(), plain.text());
    if (plain.look(6) > 0) {
      same("wipe()", chest.wipe(), plain.wipe());
    }
    if (random.nextInt(3) == 0) {
      int which = upTo(plain.look(2));
      same("use(" + which + ")", chest.use(which), plain.use(which));
    }
  }

  private void either(StringBuilder text, int depth) {
    one(text, depth);
    while (random.nextInt(2 + depth) == 0) {
      text.append(random.nextBoolean() ? " or " : " and ");
      one(text, depth);
    }
  }

  private void one(StringBuilder text, int depth) {
    switch (random.nextInt(7)) {
      case 0:
        text.append(random.nextInt(3) == 0 ? "not " : "");
        one(text, depth + 1);
        break;
      case 1:
        text.append("(");
        either(text, depth + 1);
        text.append(")");
        break;
      case 2:
        text.append("weigh ").append(random.nextInt(20));
        break;
      case 3:
        text.append(random.nextBoolean() ? "all " : "any ");
        part(text);
        break;
      default:
        text.append("least ").append(random.nextInt(4)).append(" of ");
        part(text);
    }
  }

  private void part(StringBuilder text) {
    if (random.nextInt(3) == 0) {
      text.append("everyone");
      return;
    }
    text.append("[");
    int many = 1 + random.nextInt(4);
    for (int i = 0; i < many; i++) {
      text.append(i == 0 ? "" : " ").append(random.nextInt(random.nextInt(9) == 0 ? 10 : mostElders));
    }
    text.append("]");
  }

  /** Takes out, puts in or doubles some bytes. */
  private void spoil(StringBuilder text) {
    String[] bits = {" ", "(", ")", "[", "]", "not ", "or ", "and ", "never ", "all ", "any ", "0",
        "99", "100", "x", "A", "\t", "of ", "everyone", "least ", "weigh ", "may ", "((((((", "\u00e9"};
    for (int times = 1 + random.nextInt(2); times > 0; times--) {
      int at = random.nextInt(text.length() + 1);
      switch (random.nextInt(3)) {
        case 0:
          text.insert(at, bits[random.nextInt(bits.length)]);
          break;
        case 1:
          text.setLength(at);
          break;
        default:
          text.delete(at, Math.min(text.length(), at + 1 + random.nextInt(3)));
      }
    }
  }

  // ---- questions

  private void ask() {
    int h = aHanging();
    int set = aSet();
    int i = anIndex();
    switch (random.nextInt(24)) {
      case 0:
        int text = upTo(plain.look(2));
        same("may(" + text + ", " + set + ")", chest.may(text, set), plain.may(text, set));
        break;
      case 1:
        same("more()", chest.more(), plain.more());
        break;
      case 2:
        same("least(" + i + ")", chest.least(i), plain.least(i));
        break;
      case 3:
        same("most(" + i + ")", chest.most(i), plain.most(i));
        break;
      case 4:
        int what = upTo(6);
        same("hanging(" + h + ", " + what + ")", chest.hanging(h, what), plain.hanging(h, what));
        break;
      case 5:
        int kind = upTo(6);
        same("as(" + h + ", " + kind + ")", chest.as(h, kind), plain.as(h, kind));
        break;
      case 6:
      case 7:
        same("opens(" + h + ", " + set + ")", chest.opens(h, set), plain.opens(h, set));
        break;
      case 8:
        same("had(" + set + ")", chest.had(set), plain.had(set));
        break;
      case 9:
      case 10:
        int box = aBox();
        same("round(" + box + ", " + set + ")", chest.round(box, set), plain.round(box, set));
        break;
      case 11:
        same("wrongly(" + h + ")", chest.wrongly(h), plain.wrongly(h));
        break;
      case 12:
        same("lacks(" + h + ")", chest.lacks(h), plain.lacks(h));
        break;
      case 13:
        int other = aHanging();
        same("same(" + h + ", " + other + ")", chest.same(h, other), plain.same(h, other));
        break;
      case 14:
        int n = upTo(plain.look(1) + 1);
        same("bears(" + h + ", " + n + ")", chest.bears(h, n), plain.bears(h, n));
        break;
      case 15:
        same("could(" + h + ")", chest.could(h), plain.could(h));
        break;
      case 16:
        int which = upTo(3);
        same("heavy(" + which + ")", chest.heavy(which), plain.heavy(which));
        break;
      default:
        askDear(h, set, i);
    }
  }

  private void askDear(int h, int set, int i) {
    if (mostElders > 6 && random.nextInt(4) != 0) {
      return;
    }
    switch (random.nextInt(9)) {
      case 0:
      case 1:
        same("lets(" + h + ", " + i + ")", chest.lets(h, i), plain.lets(h, i));
        break;
      case 2:
        same("shut(" + h + ", " + i + ")", chest.shut(h, i), plain.shut(h, i));
        break;
      case 3:
        same("need(" + h + ", " + set + ")", chest.need(h, set), plain.need(h, set));
        break;
      case 4:
        if (random.nextInt(3) == 0) {
          same("build()", chest.build(), plain.build());
        }
        break;
      case 5:
        same("fewest()", chest.fewest(), plain.fewest());
        break;
      case 6:
        int elder = anElder();
        int key = aKeyOf(elder);
        same("spare(" + h + ", " + elder + ", " + key + ")", chest.spare(h, elder, key),
            plain.spare(h, elder, key));
        break;
      case 7:
        if (random.nextInt(6) == 0 && mostElders < 9) {
          same("thin(" + h + ")", chest.thin(h), plain.thin(h));
        }
        break;
      default:
        judgeLets(h);
    }
  }

  /** Writes LETS on a sheet, at times with a slip, and has them judged. */
  private void judgeLets(int h) {
    int s = upTo(4);
    int many = plain.lets(h, -1);
    same("lets(" + h + ", -1)", chest.lets(h, -1), many);
    int n = Math.max(0, Math.min(40, many)) + (random.nextInt(5) == 0 ? 1 : 0);
    same("sheet(" + s + ", 16, " + n + ")", chest.sheet(s, 16, n), plain.sheet(s, 16, n));
    for (int i = 0; i < Math.min(n, many); i++) {
      long v = plain.lets(h, i) + (random.nextInt(12) == 0 ? 1 : 0);
      same("lets(" + h + ", " + i + ")", chest.lets(h, i), v == plain.lets(h, i) ? v : v - 1);
      same("write(" + s + ", " + i + ", " + v + ")", chest.write(s, i, v), plain.write(s, i, v));
    }
    same("judge(" + s + ", " + h + ")", chest.judge(s, h), plain.judge(s, h));
  }

  private void onSheets() {
    int s = upTo(4);
    int t = random.nextInt(3) == 0 ? s : upTo(4);
    int n = random.nextBoolean() ? 20 : upTo(random.nextBoolean() ? 41 : 10);
    switch (random.nextInt(6)) {
      case 0:
        int[] widths = {0, 8, 8, 16, 16, 64, 64, 64, 64, 32};
        int bits = widths[random.nextInt(widths.length)];
        same("sheet(" + s + ", " + bits + ", " + n + ")", chest.sheet(s, bits, n),
            plain.sheet(s, bits, n));
        break;
      case 1:
      case 2:
      case 3:
        n = random.nextInt(3) == 0 ? n : upTo(10);
        long v = random.nextLong() >> random.nextInt(64);
        same("write(" + s + ", " + n + ", " + v + ")", chest.write(s, n, v), plain.write(s, n, v));
        break;
      case 4:
        int h = aHanging();
        same("judge(" + s + ", " + h + ")", chest.judge(s, h), plain.judge(s, h));
        break;
      default:
        int from = upTo(8);
        int to = upTo(8);
        int many = upTo(16);
        same("copy(" + s + ", " + from + ", " + t + ", " + to + ", " + many + ")",
            chest.copy(s, from, t, to, many), plain.copy(s, from, t, to, many));
    }
  }

  private void onImages() {
    switch (random.nextInt(5)) {
      case 0:
      case 1:
        same("image()", chest.image(), plain.image());
        break;
      case 2:
      case 3:
        same("undo()", chest.undo(), plain.undo());
        break;
      default:
        same("tear()", chest.tear(), plain.tear());
    }
  }

  private void looks() {
    if (random.nextInt(3) == 0) {
      int which = upTo(8) - 1;
      same("status(" + which + ")", chest.status(which), plain.status(which));
    } else if (random.nextBoolean()) {
      int what = upTo(7);
      same("look(" + what + ")", chest.look(what), plain.look(what));
    } else {
      int elder = anElder();
      int what = upTo(5);
      same("of(" + elder + ", " + what + ")", chest.of(elder, what), plain.of(elder, what));
    }
  }
}
