import java.util.Arrays;

/**
 * Locks on one chest: elders, texts of which sets of them may, hangings of locks, chains, rows and
 * boxes, keys on rings. The document numbers what each call promises; words in capitals are its.
 */
public final class ElderChest {
  private static final int BEYOND = -1000000001;
  private static final int FULL = -1000000002;
  private static final int KIND = -1000000003;
  private static final int NONE = -1000000004;
  private static final int STATE = -1000000005;
  private static final int MISSING = -1000000006;
  private static final int SIZE = -1000000007;
  private static final int FINDINGS = 7;

  private static final int MOST_ELDERS = 10;
  private static final int MOST_WEIGHT = 9;
  private static final int SETS = 1 << MOST_ELDERS;
  private static final int EVERYONE = SETS - 1;
  private static final int MOST_TEXTS = 8;
  private static final int MOST_BYTES = 120;
  private static final int KEYS = 24;
  private static final int MOST_HANGINGS = 40;
  private static final int MOST_LENDS = 20;
  private static final int MOST_NEEDED = 3;
  private static final int MOST_FOR_FEWEST = 4;
  private static final int SHEETS = 4;
  private static final int MOST_NUMBERS = 40;

  private static final int HANGING = 0;
  private static final int LOCK = 1;
  private static final int CHAIN = 2;
  private static final int ROW = 3;
  private static final int BOX = 4;
  private static final int OLD = 5;

  private final Findings findings = new Findings();
  private final Elders elders = new Elders();
  private final Texts texts = new Texts();
  private final Hangings hangings = new Hangings();
  // What image() keeps. TEXTS and HANGINGS never change once they are made, and only undo() takes
  // any of them away, back to those that were there: so it is enough how many they were.
  private boolean kept;
  private final Elders keptElders = new Elders();
  private int keptTexts;
  private int keptUsed;
  private int keptHangings;
  private final TextReader reader = new TextReader();
  private final Tape tape = reader.tape;
  private final Openings openings = new Openings();
  private final Family allowed = new Family();
  private final Family opening = new Family();
  private final SetList list = new SetList();
  private final Formulas formulas = new Formulas();
  private final Sheet[] sheets = new Sheet[SHEETS];

  public ElderChest() {
    for (int s = 0; s < SHEETS; s++) {
      sheets[s] = new Sheet();
    }
  }

  // ---- elders, texts

  public int elder(int weight) {
    if (weight < 0 || weight > MOST_WEIGHT) {
      return findings.tell(BEYOND);
    }
    if (elders.count >= MOST_ELDERS) {
      return findings.tell(FULL);
    }
    return elders.add(weight);
  }

  public int of(int elder, int what) {
    if (!elders.has(elder)) {
      return findings.tell(BEYOND);
    }
    switch (what) {
      case 0:
        return elders.weights[elder];
      case 1:
        return elders.gone >> elder & 1;
      case 2:
        return elders.rings[elder];
      case 3:
        return Integer.bitCount(elders.rings[elder]);
      case 4:
        return elders.lentTimes[elder];
      default:
        return findings.tell(BEYOND);
    }
  }

  public int gone(int elder, boolean on) {
    if (!elders.has(elder)) {
      return findings.tell(BEYOND);
    }
    return elders.setGone(elder, on) ? 1 : 0;
  }

  public int feed(int bytes, int n) {
    if (n < 1 || n > 4) {
      return findings.tell(BEYOND);
    }
    if (tape.length + n > MOST_BYTES) {
      return findings.tell(FULL);
    }
    return tape.add(bytes, n);
  }

  public int wipe() {
    return tape.clear();
  }

  public int text() {
    if (texts.count >= MOST_TEXTS) {
      return findings.tell(FULL);
    }
    int fault = reader.readTape();
    if (fault >= 0) {
      return -1 - fault;
    }
    tape.clear();
    return texts.add(reader.code, reader.length);
  }

  public int use(int text) {
    if (!texts.has(text)) {
      return findings.tell(BEYOND);
    }
    return texts.setUsed(text);
  }

  public int may(int text, int set) {
    if (!texts.has(text) || !elders.hasSet(set)) {
      return findings.tell(BEYOND);
    }
    return texts.allow(text, set & elders.present(), elders) ? 1 : 0;
  }

  public int more() {
    if (texts.used < 0) {
      return findings.tell(STATE);
    }
    int fall = allowedSets().firstFall();
    return fall < 0 ? findings.tell(NONE) : fall;
  }

  public int least(int i) {
    return listedByText(i, false);
  }

  public int most(int i) {
    return listedByText(i, true);
  }

  // ---- hangings, keys

  public int lock(int key, boolean old) {
    if (!isKey(key)) {
      return findings.tell(BEYOND);
    }
    if (!hangings.hasRoomFor(1)) {
      return findings.tell(FULL);
    }
    return hangings.addLock(key, old);
  }

  public int chain(int a, int b, boolean row) {
    if (!hangings.has(a) || !hangings.has(b)) {
      return findings.tell(BEYOND);
    }
    if (!hangings.hasRoomFor(1)) {
      return findings.tell(FULL);
    }
    return hangings.addChain(a, b, row);
  }

  public int box(int hanging, int key) {
    if (!hangings.has(hanging) || !isKey(key)) {
      return findings.tell(BEYOND);
    }
    if (!hangings.hasRoomFor(1)) {
      return findings.tell(FULL);
    }
    return hangings.addBox(hanging, key);
  }

  public int hanging(int h, int what) {
    if (!hangings.has(h)) {
      return findings.tell(BEYOND);
    }
    switch (what) {
      case 0:
        return hangings.kinds[h];
      case 1:
        return hangings.isOf(h, CHAIN) ? findings.tell(KIND) : hangings.keys[h];
      case 2:
        return hangings.isOf(h, LOCK) ? findings.tell(KIND) : hangings.firsts[h];
      case 3:
        return hangings.isOf(h, CHAIN) ? hangings.seconds[h] : findings.tell(KIND);
      case 4:
        return hangings.costs[h];
      case 5:
        return hangings.locks[h];
      default:
        return findings.tell(BEYOND);
    }
  }

  public int as(int h, int kind) {
    if (!hangings.has(h) || kind < HANGING || kind > OLD) {
      return findings.tell(BEYOND);
    }
    return hangings.isOf(h, kind) ? h : findings.tell(KIND);
  }

  public int key(int elder, int key, boolean on) {
    if (!elders.has(elder) || !isKey(key)) {
      return findings.tell(BEYOND);
    }
    return elders.setKey(elder, key, on) ? 1 : 0;
  }

  public int lend(int from, int to, int key) {
    if (!elders.has(from) || !elders.has(to) || from == to || !isKey(key)) {
      return findings.tell(BEYOND);
    }
    if (!elders.hasKey(from, key)) {
      return findings.tell(NONE);
    }
    if (elders.lends >= MOST_LENDS) {
      return findings.tell(FULL);
    }
    return elders.addLend(to, key);
  }

  public int opens(int h, int set) {
    if (!hangings.has(h) || !elders.hasSet(set)) {
      return findings.tell(BEYOND);
    }
    return hangings.isOpenInTheEnd(h, elders.keysOf(set)) ? 1 : 0;
  }

  public int had(int set) {
    if (!elders.hasSet(set)) {
      return findings.tell(BEYOND);
    }
    return hangings.keysInTheEnd(elders.keysOf(set));
  }

  public int round(int h, int set) {
    if (!hangings.has(h) || !elders.hasSet(set)) {
      return findings.tell(BEYOND);
    }
    if (!hangings.isOf(h, BOX)) {
      return findings.tell(KIND);
    }
    return hangings.roundOf(h, elders.keysOf(set));
  }

  // ---- what a hanging lets

  public int lets(int h, int i) {
    return listedByHanging(h, i, false);
  }

  public int shut(int h, int i) {
    return listedByHanging(h, i, true);
  }

  public int wrongly(int h) {
    return firstApart(h, true);
  }

  public int lacks(int h) {
    return firstApart(h, false);
  }

  public int same(int a, int b) {
    if (!hangings.has(a) || !hangings.has(b)) {
      return findings.tell(BEYOND);
    }
    openings.refresh(elders, hangings);
    int all = elders.present();
    for (int set = 0; set <= all; set++) {
      if ((set & ~all) == 0 && openings.isOpen(a, set) != openings.isOpen(b, set)) {
        return 0;
      }
    }
    return 1;
  }

  public int bears(int h, int n) {
    int all = elders.present();
    int left = Integer.bitCount(all) - n;
    if (!hangings.has(h) || n < 0 || left < 0) {
      return findings.tell(BEYOND);
    }
    openings.refresh(elders, hangings);
    for (int set = 0; set <= all; set++) {
      boolean leaves = (set & ~all) == 0 && Integer.bitCount(set) == left;
      if (leaves && !openings.isOpen(h, set)) {
        return 0;
      }
    }
    return 1;
  }

  public int need(int h, int set) {
    if (!hangings.has(h) || !elders.hasSet(set)) {
      return findings.tell(BEYOND);
    }
    int had = hangings.keysInTheEnd(elders.keysOf(set));
    for (int many = 0; many <= MOST_NEEDED; many++) {
      int besides = leastBesides(h, had, many, KEYS);
      if (besides >= 0) {
        return besides;
      }
    }
    return findings.tell(NONE);
  }

  public int could(int h) {
    if (!hangings.has(h)) {
      return findings.tell(BEYOND);
    }
    int all = elders.present();
    int those = 0;
    for (int elder = 0; elder < elders.count; elder++) {
      int keys = elders.rings[elder] | elders.lentKeys[elder];
      if ((all >> elder & 1) != 0 && hangings.isOpenInTheEnd(h, keys)) {
        those |= 1 << elder;
      }
    }
    return those;
  }

  // ---- made from a text

  public int build() {
    if (texts.used < 0) {
      return findings.tell(STATE);
    }
    Family sets = allowedSets();
    if (sets.firstFall() >= 0) {
      return findings.tell(KIND);
    }
    list.findMost(sets);
    if (list.size == 0) {
      return findings.tell(NONE);
    }
    if (list.size > KEYS || !hangings.hasRoomFor(2 * list.size - 1)) {
      return findings.tell(FULL);
    }
    return hangSideBySide();
  }

  public int fewest() {
    if (texts.used < 0) {
      return findings.tell(STATE);
    }
    int many = Integer.bitCount(elders.present());
    if (many == 0 || many > MOST_FOR_FEWEST) {
      return findings.tell(SIZE);
    }
    Family sets = allowedSets();
    if (sets.firstFall() >= 0) {
      return findings.tell(KIND);
    }
    int locks = formulas.locksFor(sets.truth());
    return locks == 0 ? findings.tell(NONE) : locks;
  }

  public int spare(int h, int elder, int key) {
    if (!hangings.has(h) || !elders.has(elder) || !isKey(key)) {
      return findings.tell(BEYOND);
    }
    if (!elders.hasKey(elder, key)) {
      return findings.tell(NONE);
    }
    openings.refresh(elders, hangings);
    return isSpare(h, elder, key) ? 1 : 0;
  }

  public int thin(int h) {
    if (!hangings.has(h)) {
      return findings.tell(BEYOND);
    }
    int taken = 0;
    for (int elder = 0; elder < elders.count; elder++) {
      // Once an ELDER is enough: what isSpare reads stays right while only this RING gets thinner.
      openings.refresh(elders, hangings);
      taken += thinRing(h, elder);
    }
    return taken;
  }

  public int heavy(int what) {
    if (what < 0 || what > 2) {
      return findings.tell(BEYOND);
    }
    if (elders.present() == 0) {
      return findings.tell(NONE);
    }
    int heaviest = elders.heaviest();
    switch (what) {
      case 0:
        return Integer.bitCount(elders.rings[heaviest]);
      case 1:
        return heaviest;
      default:
        return elders.keysTogether();
    }
  }

  public int judge(int s, int h) {
    if (!isSheet(s)) {
      return findings.tell(BEYOND);
    }
    if (sheets[s].isMissing()) {
      return findings.tell(MISSING);
    }
    if (!hangings.has(h)) {
      return findings.tell(BEYOND);
    }
    list.findLeast(openingSets(h));
    int right = sheets[s].rightOnes(list);
    return right == list.size && right == sheets[s].size ? 0 : right + 1;
  }

  // ---- sheets

  public int sheet(int s, int bits, int n) {
    if (!isSheet(s) || bits != 0 && bits != 8 && bits != 16 && bits != 64) {
      return findings.tell(BEYOND);
    }
    if (n < 0) {
      return findings.tell(SIZE);
    }
    if (n > MOST_NUMBERS) {
      return findings.tell(BEYOND);
    }
    return sheets[s].clear(bits, n);
  }

  public long write(int s, int i, long v) {
    if (!isSheet(s)) {
      return findings.tell(BEYOND);
    }
    if (sheets[s].isMissing()) {
      return findings.tell(MISSING);
    }
    if (i < 0 || i >= sheets[s].size) {
      return findings.tell(BEYOND);
    }
    return sheets[s].change(i, v);
  }

  public int copy(int s, int from, int t, int to, int n) {
    if (!isSheet(s) || !isSheet(t)) {
      return findings.tell(BEYOND);
    }
    if (sheets[s].isMissing() || sheets[t].isMissing()) {
      return findings.tell(MISSING);
    }
    if (sheets[s].bits != sheets[t].bits) {
      return findings.tell(KIND);
    }
    if (!sheets[s].hasFrom(from, n) || !sheets[t].hasFrom(to, n)) {
      return findings.tell(BEYOND);
    }
    System.arraycopy(sheets[s].numbers, from, sheets[t].numbers, to, n);
    return n;
  }

  // ---- images

  public int image() {
    keptElders.takeFrom(elders);
    keptTexts = texts.count;
    keptUsed = texts.used;
    keptHangings = hangings.count;
    kept = true;
    return 1;
  }

  public int undo() {
    if (!kept) {
      return findings.tell(NONE);
    }
    elders.takeFrom(keptElders);
    texts.goBack(keptTexts, keptUsed);
    hangings.goBack(keptHangings);
    return hangings.count;
  }

  public int tear() {
    boolean was = kept;
    kept = false;
    return was ? 1 : 0;
  }

  public int look(int what) {
    switch (what) {
      case 0:
        return elders.count;
      case 1:
        return Integer.bitCount(elders.present());
      case 2:
        return texts.count;
      case 3:
        return texts.used;
      case 4:
        return hangings.count;
      case 5:
        return elders.lends;
      case 6:
        return tape.length;
      default:
        return findings.tell(BEYOND);
    }
  }

  public int status(int which) {
    if (which < -1 || which >= FINDINGS) {
      return findings.tell(BEYOND);
    }
    return which < 0 ? findings.all : findings.counts[which];
  }

  // ---- what several calls share

  private static boolean isKey(int key) {
    return key >= 0 && key < KEYS;
  }

  private static boolean isSheet(int s) {
    return s >= 0 && s < SHEETS;
  }

  /** The SETS of ALL that MAY by THE TEXT, which there must be. */
  private Family allowedSets() {
    int stamp = elders.changes + texts.changes;
    if (allowed.stamp != stamp) {
      int all = elders.present();
      allowed.all = all;
      for (int set = 0; set <= all; set++) {
        allowed.holds[set] = (set & ~all) == 0 && texts.allow(texts.used, set, elders);
      }
      allowed.stamp = stamp;
    }
    return allowed;
  }

  /** The SETS of ALL that OPEN a HANGING. */
  private Family openingSets(int h) {
    openings.refresh(elders, hangings);
    int all = elders.present();
    opening.all = all;
    for (int set = 0; set <= all; set++) {
      opening.holds[set] = (set & ~all) == 0 && openings.isOpen(h, set);
    }
    return opening;
  }

  private int listedByText(int i, boolean most) {
    if (texts.used < 0) {
      return findings.tell(STATE);
    }
    if (i < -1) {
      return findings.tell(BEYOND);
    }
    return listed(allowedSets(), i, most);
  }

  private int listedByHanging(int h, int i, boolean most) {
    if (!hangings.has(h) || i < -1) {
      return findings.tell(BEYOND);
    }
    return listed(openingSets(h), i, most);
  }

  private int listed(Family sets, int i, boolean most) {
    if (most) {
      list.findMost(sets);
    } else {
      list.findLeast(sets);
    }
    if (i < 0) {
      return list.size;
    }
    return i < list.size ? list.found[i] : findings.tell(NONE);
  }

  /** The first SET that OPENS and MAY not (opened), or that MAY and doesn't OPEN (not opened). */
  private int firstApart(int h, boolean opened) {
    if (!hangings.has(h)) {
      return findings.tell(BEYOND);
    }
    if (texts.used < 0) {
      return findings.tell(STATE);
    }
    Family sets = allowedSets();
    openings.refresh(elders, hangings);
    int all = elders.present();
    for (int set = 0; set <= all; set++) {
      boolean asked = (set & ~all) == 0 && openings.isOpen(h, set) == opened;
      if (asked && sets.holds[set] != opened) {
        return set;
      }
    }
    return findings.tell(NONE);
  }

  /** Of the SETS of so many KEYS, each below one, the least with which a HANGING opens; or -1. */
  private int leastBesides(int h, int had, int many, int below) {
    if (many <= 0) {
      return hangings.isOpenInTheEnd(h, had) ? 0 : -1;
    }
    // A KEY for which there is no LOCK, or that is had, is never one of the fewest.
    int useful = hangings.keysOfLocks() & ~had;
    // By the greatest KEY first, then by the next: so SETS come by their bits.
    for (int key = 0; key < below; key++) {
      if ((useful >> key & 1) != 0) {
        int others = leastBesides(h, had | 1 << key, many - 1, key);
        if (others >= 0) {
          return others | 1 << key;
        }
      }
    }
    return -1;
  }

  /** A LOCK for each SET of the list, with its KEY on the RINGS of the others, then the ROWS. */
  private int hangSideBySide() {
    elders.emptyRings();
    int all = elders.present();
    int firstLock = hangings.count;
    for (int i = 0; i < list.size; i++) {
      hangings.addLock(i, false);
      elders.giveKey(all & ~list.found[i], i);
    }
    int last = firstLock;
    for (int i = 1; i < list.size; i++) {
      last = hangings.addChain(last, firstLock + i, true);
    }
    return last;
  }

  private int thinRing(int h, int elder) {
    int taken = 0;
    for (int key = 0; key < KEYS; key++) {
      if (elders.hasKey(elder, key) && isSpare(h, elder, key)) {
        elders.setKey(elder, key, false);
        taken++;
      }
    }
    return taken;
  }

  /**
   * Whether a KEY on a RING is spare: it always is if no SET of ALL has that ELDER. Of the openings
   * this reads only what the SETS without the ELDER have, and which SETS with it OPEN the HANGING:
   * spare KEYS that go from its RING change neither.
   */
  private boolean isSpare(int h, int elder, int key) {
    int one = 1 << elder;
    int all = elders.present();
    int ring = elders.rings[elder] & ~(1 << key);
    for (int set = one; set <= all; set++) {
      int others = set & ~one;
      boolean needsElder = (set & ~all) == 0 && others != set
          && openings.isOpen(h, set) && !openings.isOpen(h, others);
      if (needsElder && !hangings.isOpenInTheEnd(h, openings.endKeys[others] | ring)) {
        return false;
      }
    }
    return true;
  }

  /** How many acts answered each finding. */
  private static final class Findings {
    final int[] counts = new int[FINDINGS];
    int all;

    int tell(int finding) {
      int which = BEYOND - finding;
      if (which >= 0 && which < FINDINGS) {
        counts[which]++;
        all++;
      }
      return finding;
    }
  }

  /** ELDERS with their RINGS, and what was lent to them. */
  private static final class Elders {
    int count;
    int gone;
    int lends;
    /** Grows with each change that what is made from the ELDERS must follow. */
    int changes;
    final int[] weights = new int[MOST_ELDERS];
    final int[] rings = new int[MOST_ELDERS];
    final int[] lentTimes = new int[MOST_ELDERS];
    final int[] lentKeys = new int[MOST_ELDERS];

    boolean has(int elder) {
      return elder >= 0 && elder < count;
    }

    boolean hasSet(int set) {
      return (set & ~((1 << count) - 1)) == 0;
    }

    boolean hasKey(int elder, int key) {
      return (rings[elder] >> key & 1) != 0;
    }

    /** ALL. */
    int present() {
      return (1 << count) - 1 & ~gone;
    }

    int add(int weight) {
      // The rest of this place is 0: nothing was put there, or undo() took it back.
      weights[count] = weight;
      changes++;
      return count++;
    }

    boolean setGone(int elder, boolean on) {
      int was = gone;
      gone = on ? gone | 1 << elder : gone & ~(1 << elder);
      changes++;
      return gone != was;
    }

    boolean setKey(int elder, int key, boolean on) {
      int was = rings[elder];
      rings[elder] = on ? was | 1 << key : was & ~(1 << key);
      changes++;
      return rings[elder] != was;
    }

    void giveKey(int set, int key) {
      for (int elder = 0; elder < count; elder++) {
        if ((set >> elder & 1) != 0) {
          setKey(elder, key, true);
        }
      }
    }

    void emptyRings() {
      Arrays.fill(rings, 0);
      changes++;
    }

    int addLend(int to, int key) {
      lentTimes[to]++;
      lentKeys[to] |= 1 << key;
      lends++;
      return lends;
    }

    int weightOf(int set) {
      int sum = 0;
      for (int elder = 0; elder < count; elder++) {
        sum += (set >> elder & 1) * weights[elder];
      }
      return sum;
    }

    /** KEYS on the RINGS of a SET, in which those who are GONE don't count. */
    int keysOf(int set) {
      int keys = 0;
      for (int elder = 0; elder < count; elder++) {
        if ((set & ~gone & 1 << elder) != 0) {
          keys |= rings[elder];
        }
      }
      return keys;
    }

    /** Whose of ALL has the most KEYS, the least of them. */
    int heaviest() {
      int heaviest = 0;
      int most = -1;
      for (int elder = 0; elder < count; elder++) {
        int keys = Integer.bitCount(rings[elder]);
        if ((gone >> elder & 1) == 0 && keys > most) {
          heaviest = elder;
          most = keys;
        }
      }
      return heaviest;
    }

    int keysTogether() {
      int sum = 0;
      for (int elder = 0; elder < count; elder++) {
        if ((gone >> elder & 1) == 0) {
          sum += Integer.bitCount(rings[elder]);
        }
      }
      return sum;
    }

    void takeFrom(Elders other) {
      count = other.count;
      gone = other.gone;
      lends = other.lends;
      System.arraycopy(other.weights, 0, weights, 0, MOST_ELDERS);
      System.arraycopy(other.rings, 0, rings, 0, MOST_ELDERS);
      System.arraycopy(other.lentTimes, 0, lentTimes, 0, MOST_ELDERS);
      System.arraycopy(other.lentKeys, 0, lentKeys, 0, MOST_ELDERS);
      changes++;
    }
  }

  /** THE TAPE. */
  private static final class Tape {
    final int[] bytes = new int[MOST_BYTES];
    int length;

    int add(int number, int n) {
      for (int i = n - 1; i >= 0; i--) {
        bytes[length] = number >>> 8 * i & 255;
        length++;
      }
      return length;
    }

    int clear() {
      int was = length;
      length = 0;
      return was;
    }
  }

  /**
   * TEXTS as codes, in which a part stands ahead of what joins it: E of may, then E of never with a
   * not and an and behind it.
   */
  private static final class Texts {
    static final int LEAST_OF = 0;
    static final int ALL_OF = 1;
    static final int ANY_OF = 2;
    static final int WEIGH = 3;
    static final int NOT = 4;
    static final int AND = 5;
    static final int OR = 6;

    int count;
    /** THE TEXT. */
    int used = -1;
    int changes;
    final int[] lengths = new int[MOST_TEXTS];
    final int[][] codes = new int[MOST_TEXTS][MOST_BYTES];

    /** One step of a code. */
    static int step(int act, int number, int part) {
      return act | number << 3 | part << 10;
    }

    boolean has(int text) {
      return text >= 0 && text < count;
    }

    int add(int[] code, int length) {
      System.arraycopy(code, 0, codes[count], 0, length);
      lengths[count] = length;
      if (used < 0) {
        used = count;
      }
      changes++;
      return count++;
    }

    int setUsed(int text) {
      int was = used;
      used = text;
      changes++;
      return was;
    }

    /** Whether a SET of ALL MAY by a TEXT. */
    boolean allow(int text, int set, Elders elders) {
      int all = elders.present();
      // What holds so far, the latest lowest: a TEXT is never so deep that more than 20 wait.
      int waiting = 0;
      for (int i = 0; i < lengths[text]; i++) {
        int step = codes[text][i];
        int act = step & 7;
        int latest = waiting & 1;
        if (act == NOT) {
          waiting ^= 1;
        } else if (act == AND) {
          waiting = waiting >>> 1 & (latest | ~1);
        } else if (act == OR) {
          waiting = waiting >>> 1 | latest;
        } else {
          boolean holds = act == WEIGH
              ? elders.weightOf(set) >= (step >> 3 & 127)
              : partHolds(act, step >> 3 & 127, set, step >> 10 & all);
          waiting = waiting << 1 | (holds ? 1 : 0);
        }
      }
      return (waiting & 1) != 0;
    }

    static boolean partHolds(int act, int number, int set, int part) {
      switch (act) {
        case LEAST_OF:
          return Integer.bitCount(set & part) >= number;
        case ALL_OF:
          return (part & ~set) == 0;
        default:
          return (set & part) != 0;
      }
    }

    void goBack(int toCount, int toUsed) {
      count = toCount;
      used = toUsed;
      changes++;
    }
  }

  /** Reads THE TAPE as a TEXT: first its TOKENS, then what they tell. */
  private static final class TextReader {
    static final int END = 0;
    static final int WRONG = 1;
    static final int NUMBER = 2;
    static final int OPEN = 3;
    static final int CLOSE = 4;
    static final int OPEN_LIST = 5;
    static final int CLOSE_LIST = 6;
    static final int MAY = 7;
    static final int NEVER = 8;
    static final int OR = 9;
    static final int AND = 10;
    static final int NOT = 11;
    static final int LEAST = 12;
    static final int OF = 13;
    static final int ALL = 14;
    static final int ANY = 15;
    static final int WEIGH = 16;
    static final int EVERYONE_WORD = 17;

    static final int MOST_OPEN = 6;
    static final int GREATEST = 99;

    final Tape tape = new Tape();
    final int[] code = new int[MOST_BYTES];
    int length;
    /** TOKENS, an END behind them; the place of each, and of a NUMBER what it is. */
    final int[] tokens = new int[MOST_BYTES + 1];
    final int[] places = new int[MOST_BYTES + 1];
    final int[] values = new int[MOST_BYTES + 1];
    /** Which TOKEN is looked at: never one behind the END, as that is never passed. */
    int at;
    /** The latest PART. */
    int part;

    /** The FAULT, or -1 if there is none: then the code is that of the TEXT. */
    int readTape() {
      findTokens();
      length = 0;
      at = 0;
      boolean right = pass(MAY) && readEither(0);
      if (right && pass(NEVER)) {
        right = readEither(0);
        emit(Texts.NOT, 0, 0);
        emit(Texts.AND, 0, 0);
      }
      return right && tokens[at] == END ? -1 : places[at];
    }

    /** E. This and the next three carry how many ( and not are open. */
    boolean readEither(int open) {
      boolean right = readBoth(open);
      for (int i = 0; right && i < MOST_BYTES && pass(OR); i++) {
        right = readBoth(open);
        emit(Texts.OR, 0, 0);
      }
      return right;
    }

    boolean readBoth(int open) {
      boolean right = readNot(open);
      for (int i = 0; right && i < MOST_BYTES && pass(AND); i++) {
        right = readNot(open);
        emit(Texts.AND, 0, 0);
      }
      return right;
    }

    boolean readNot(int open) {
      if (tokens[at] != NOT) {
        return readOne(open);
      }
      if (open >= MOST_OPEN) {
        return false;
      }
      at++;
      boolean right = readNot(open + 1);
      emit(Texts.NOT, 0, 0);
      return right;
    }

    boolean readOne(int open) {
      if (pass(LEAST)) {
        int least = values[at];
        return pass(NUMBER) && pass(OF) && readPart() && emit(Texts.LEAST_OF, least, part);
      }
      if (pass(ALL)) {
        return readPart() && emit(Texts.ALL_OF, 0, part);
      }
      if (pass(ANY)) {
        return readPart() && emit(Texts.ANY_OF, 0, part);
      }
      if (pass(WEIGH)) {
        int weight = values[at];
        return pass(NUMBER) && emit(Texts.WEIGH, weight, 0);
      }
      return open < MOST_OPEN && pass(OPEN) && readEither(open + 1) && pass(CLOSE);
    }

    boolean readPart() {
      if (pass(EVERYONE_WORD)) {
        part = EVERYONE;
        return true;
      }
      part = 0;
      boolean right = pass(OPEN_LIST) && tokens[at] == NUMBER;
      for (int i = 0; right && i < MOST_BYTES && values[at] < MOST_ELDERS; i++) {
        part |= 1 << values[at];
        at++;
        right = tokens[at] == NUMBER;
      }
      return part != 0 && pass(CLOSE_LIST);
    }

    /** Goes on behind a TOKEN, if it is this one. */
    boolean pass(int wanted) {
      boolean right = tokens[at] == wanted;
      at += right ? 1 : 0;
      return right;
    }

    boolean emit(int act, int number, int part) {
      // Each step has a TOKEN of its own, so there is room; of a TEXT with a FAULT no step counts.
      if (length < MOST_BYTES) {
        code[length] = Texts.step(act, number, part);
        length++;
      }
      return true;
    }

    void findTokens() {
      int found = 0;
      int end = 0;
      for (int place = 0; place < tape.length; place++) {
        if (place >= end && tape.bytes[place] != ' ') {
          end = endOf(place);
          tokens[found] = tokenOf(place, end);
          places[found] = place;
          values[found] = tokens[found] == NUMBER ? numberOf(place, end) : 0;
          found++;
        }
      }
      tokens[found] = END;
      places[found] = tape.length;
      values[found] = 0;
    }

    /** Where the TOKEN that begins at a place ends: it is of letters, of digits, or one byte. */
    int endOf(int place) {
      boolean letters = isLetter(tape.bytes[place]);
      boolean digits = isDigit(tape.bytes[place]);
      int end = place + 1;
      while (end < tape.length
          && (letters && isLetter(tape.bytes[end]) || digits && isDigit(tape.bytes[end]))) {
        end++;
      }
      return end;
    }

    int tokenOf(int place, int end) {
      if (isLetter(tape.bytes[place])) {
        return wordToken(place, end);
      }
      if (isDigit(tape.bytes[place])) {
        return numberOf(place, end) > GREATEST ? WRONG : NUMBER;
      }
      return signToken(tape.bytes[place]);
    }

    static boolean isLetter(int b) {
      return b >= 'a' && b <= 'z';
    }

    static boolean isDigit(int b) {
      return b >= '0' && b <= '9';
    }

    /** What digits tell, GREATEST and one at most. */
    int numberOf(int place, int end) {
      int value = 0;
      for (int i = place; i < end; i++) {
        value = Math.min(value * 10 + tape.bytes[i] - '0', GREATEST + 1);
      }
      return value;
    }

    static int signToken(int b) {
      switch (b) {
        case '(':
          return OPEN;
        case ')':
          return CLOSE;
        case '[':
          return OPEN_LIST;
        case ']':
          return CLOSE_LIST;
        default:
          return WRONG;
      }
    }

    int wordToken(int place, int end) {
      if (spells("may", place, end)) {
        return MAY;
      }
      if (spells("never", place, end)) {
        return NEVER;
      }
      if (spells("or", place, end)) {
        return OR;
      }
      if (spells("and", place, end)) {
        return AND;
      }
      if (spells("not", place, end)) {
        return NOT;
      }
      if (spells("least", place, end)) {
        return LEAST;
      }
      if (spells("of", place, end)) {
        return OF;
      }
      if (spells("all", place, end)) {
        return ALL;
      }
      if (spells("any", place, end)) {
        return ANY;
      }
      if (spells("weigh", place, end)) {
        return WEIGH;
      }
      return spells("everyone", place, end) ? EVERYONE_WORD : WRONG;
    }

    boolean spells(String word, int place, int end) {
      if (end - place != word.length()) {
        return false;
      }
      for (int i = 0; i < word.length(); i++) {
        if (tape.bytes[place + i] != word.charAt(i)) {
          return false;
        }
      }
      return true;
    }
  }

  /**
   * HANGINGS. What one is of was there ahead of it, so all are worked out in one go from the first
   * on; a HANGING that is often within another makes that no dearer.
   */
  private static final class Hangings {
    int count;
    int changes;
    final int[] kinds = new int[MOST_HANGINGS];
    final int[] keys = new int[MOST_HANGINGS];
    /** KEYS with which a LOCK opens: of an OLD one two, of what is no LOCK none. */
    final int[] openers = new int[MOST_HANGINGS];
    final int[] firsts = new int[MOST_HANGINGS];
    final int[] seconds = new int[MOST_HANGINGS];
    final int[] costs = new int[MOST_HANGINGS];
    final int[] locks = new int[MOST_HANGINGS];

    boolean has(int h) {
      return h >= 0 && h < count;
    }

    boolean hasRoomFor(int more) {
      return more <= MOST_HANGINGS - count;
    }

    /** Whether a HANGING is of a kind, or of one under it. */
    boolean isOf(int h, int kind) {
      int own = kinds[h];
      return kind == HANGING || own == kind
          || own == OLD && kind == LOCK || own == ROW && kind == CHAIN;
    }

    int addLock(int key, boolean old) {
      return add(old ? OLD : LOCK, key, 0, 0, old ? 2 : 3, 1);
    }

    int addChain(int a, int b, boolean row) {
      int cost = (row ? 2 : 1) + costs[a] + costs[b];
      return add(row ? ROW : CHAIN, 0, a, b, cost, locks[a] + locks[b]);
    }

    int addBox(int about, int key) {
      return add(BOX, key, about, 0, 4 + costs[about], locks[about]);
    }

    int add(int kind, int key, int first, int second, int cost, int lockCount) {
      kinds[count] = kind;
      keys[count] = key;
      openers[count] = openersOf(kind, key);
      firsts[count] = first;
      seconds[count] = second;
      costs[count] = cost;
      locks[count] = lockCount;
      changes++;
      return count++;
    }

    static int openersOf(int kind, int key) {
      switch (kind) {
        case LOCK:
          return 1 << key;
        case OLD:
          return 1 << key | 1 << (key + 1) % KEYS;
        default:
          return 0;
      }
    }

    /** KEYS for which there is a LOCK. */
    int keysOfLocks() {
      int all = 0;
      for (int h = 0; h < count; h++) {
        all |= openers[h];
      }
      return all;
    }

    /** The HANGINGS that open with KEYS, as bits. */
    long openWith(int had) {
      long open = 0;
      for (int h = 0; h < count; h++) {
        if (opensWith(h, had, open)) {
          open |= 1L << h;
        }
      }
      return open;
    }

    /** Whether one opens, when it is known which of those ahead of it do. */
    boolean opensWith(int h, int had, long open) {
      long first = open >> firsts[h] & 1;
      long second = open >> seconds[h] & 1;
      switch (kinds[h]) {
        case CHAIN:
          return (first | second) != 0;
        case ROW:
          return (first & second) != 0;
        case BOX:
          return first != 0;
        default:
          return (had & openers[h]) != 0;
      }
    }

    /** KEYS in the BOXES among open HANGINGS. */
    int keysInBoxes(long open) {
      int inside = 0;
      for (int h = 0; h < count; h++) {
        if (kinds[h] == BOX && (open >> h & 1) != 0) {
          inside |= 1 << keys[h];
        }
      }
      return inside;
    }

    /** The HANGINGS that open with all KEYS that are had in the end. */
    long openInTheEnd(int had) {
      int all = had;
      long open = openWith(all);
      for (int round = 1; round <= MOST_HANGINGS; round++) {
        int more = all | keysInBoxes(open);
        if (more == all) {
          break;
        }
        all = more;
        open = openWith(all);
      }
      return open;
    }

    boolean isOpenInTheEnd(int h, int had) {
      return (openInTheEnd(had) >> h & 1) != 0;
    }

    int keysInTheEnd(int had) {
      return had | keysInBoxes(openInTheEnd(had));
    }

    /** The ROUND in which a BOX opens, 0 if in none. */
    int roundOf(int h, int had) {
      int all = had;
      for (int round = 1; round <= MOST_HANGINGS; round++) {
        long open = openWith(all);
        if ((open >> h & 1) != 0) {
          return round;
        }
        int more = all | keysInBoxes(open);
        if (more == all) {
          return 0;
        }
        all = more;
      }
      return 0;
    }

    void goBack(int toCount) {
      count = toCount;
      changes++;
    }
  }

  /** What each SET of ALL has and OPENS in the end; kept till ELDERS or HANGINGS change. */
  private static final class Openings {
    final int[] endKeys = new int[SETS];
    final long[] open = new long[SETS];
    int stamp = -1;

    void refresh(Elders elders, Hangings hangings) {
      // Neither count ever falls, so their sum tells each state from those before it.
      int now = elders.changes + hangings.changes;
      if (stamp == now) {
        return;
      }
      stamp = now;
      int all = elders.present();
      // The empty SET has no KEY and OPENS nothing, as it stands at place 0 from the first.
      for (int set = 1; set <= all; set++) {
        if ((set & ~all) == 0) {
          fill(set, elders.rings[Integer.numberOfTrailingZeros(set)], hangings);
        }
      }
    }

    /** From the SET without its least ELDER, whose RING is told: what that has, this has too. */
    void fill(int set, int ring, Hangings hangings) {
      int others = set & set - 1;
      int start = endKeys[others] | ring;
      if (start == endKeys[others]) {
        endKeys[set] = start;
        open[set] = open[others];
      } else {
        open[set] = hangings.openInTheEnd(start);
        endKeys[set] = start | hangings.keysInBoxes(open[set]);
      }
    }

    boolean isOpen(int h, int set) {
      return (open[set] >> h & 1) != 0;
    }
  }

  /** SETS of ALL for which something holds. */
  private static final class Family {
    final boolean[] holds = new boolean[SETS];
    int all;
    int stamp = -1;

    /** The first SET that holds and the least ELDER with whom it doesn't, as more() tells; or -1. */
    int firstFall() {
      for (int set = 0; set <= all; set++) {
        if ((set & ~all) == 0 && holds[set]) {
          for (int elder = 0; elder < MOST_ELDERS; elder++) {
            if ((all >> elder & 1) != 0 && !holds[set | 1 << elder]) {
              return 16 * set + elder;
            }
          }
        }
      }
      return -1;
    }

    /** For which of the 16 SETS of four it holds, as bits; those of ALL are the first of the four. */
    int truth() {
      int truth = 0;
      for (int four = 0; four < 1 << MOST_FOR_FEWEST; four++) {
        int set = 0;
        int left = four;
        for (int elder = 0; elder < MOST_ELDERS; elder++) {
          if ((all >> elder & 1) != 0) {
            set |= (left & 1) << elder;
            left >>= 1;
          }
        }
        if (holds[set]) {
          truth |= 1 << four;
        }
      }
      return truth;
    }
  }

  /** SETS at an edge of a family, by numbers. */
  private static final class SetList {
    /** None of them is a part of another one, so there are never more. */
    static final int MOST = 252;

    final int[] found = new int[MOST];
    int size;
    /** Whether a SET or a part of it holds (findLeast), or it or one with more doesn't (findMost). */
    final boolean[] near = new boolean[SETS];

    /** SETS that hold, of which no part does. */
    void findLeast(Family sets) {
      size = 0;
      for (int set = 0; set <= sets.all; set++) {
        if ((set & ~sets.all) == 0) {
          boolean below = false;
          for (int elder = 0; elder < MOST_ELDERS && !below; elder++) {
            below = (set >> elder & 1) != 0 && near[set & ~(1 << elder)];
          }
          near[set] = below || sets.holds[set];
          if (near[set] && !below) {
            add(set);
          }
        }
      }
    }

    /** SETS that don't hold, while each with more does. */
    void findMost(Family sets) {
      size = 0;
      for (int set = sets.all; set >= 0; set--) {
        if ((set & ~sets.all) == 0) {
          boolean above = false;
          for (int elder = 0; elder < MOST_ELDERS && !above; elder++) {
            above = (sets.all & ~set & 1 << elder) != 0 && near[set | 1 << elder];
          }
          near[set] = above || !sets.holds[set];
          if (near[set] && !above) {
            add(set);
          }
        }
      }
      turn();
    }

    void add(int set) {
      if (size < MOST) {
        found[size] = set;
        size++;
      }
    }

    void turn() {
      for (int i = 0; i < size / 2; i++) {
        int other = found[size - 1 - i];
        found[size - 1 - i] = found[i];
        found[i] = other;
      }
    }
  }

  /** What can be hung of LOCKS of four ELDERS by CHAINS and ROWS, with few LOCKS first. */
  private static final class Formulas {
    /** So many truths rise and are neither always nor never. */
    static final int TRUTHS = 166;
    /** Far above what any of them needs. */
    static final int MOST_LOCKS = 16;

    final int[] truths = new int[TRUTHS];
    /** Where the truths that need so many LOCKS begin. */
    final int[] starts = new int[MOST_LOCKS + 2];
    final long[] known = new long[1 << 10];
    int count;
    int done;

    /** The fewest LOCKS for a truth, 0 if it can't be hung. */
    int locksFor(int truth) {
      for (int locks = 1; locks <= MOST_LOCKS; locks++) {
        if (locks > done) {
          hangAll(locks);
        }
        for (int i = starts[locks]; i < starts[locks + 1]; i++) {
          if (truths[i] == truth) {
            return locks;
          }
        }
      }
      return 0;
    }

    /** All that need just so many LOCKS, when those that need fewer are there. */
    void hangAll(int locks) {
      if (locks == 1) {
        addTruth(0xAAAA);
        addTruth(0xCCCC);
        addTruth(0xF0F0);
        addTruth(0xFF00);
      }
      for (int few = 1; few <= locks / 2; few++) {
        joinAll(few, locks - few);
      }
      starts[locks + 1] = count;
      done = locks;
    }

    void joinAll(int few, int many) {
      for (int i = starts[few]; i < starts[few + 1]; i++) {
        for (int j = starts[many]; j < starts[many + 1]; j++) {
          addTruth(truths[i] | truths[j]);
          addTruth(truths[i] & truths[j]);
        }
      }
    }

    void addTruth(int truth) {
      long bit = 1L << (truth & 63);
      if (truth == 0 || (known[truth >> 6] & bit) != 0 || count >= TRUTHS) {
        return;
      }
      known[truth >> 6] |= bit;
      truths[count] = truth;
      count++;
    }
  }

  /** A row of numbers; of 0 bits it is MISSING. */
  private static final class Sheet {
    int bits;
    int size;
    final long[] numbers = new long[MOST_NUMBERS];

    boolean isMissing() {
      return bits == 0;
    }

    int clear(int ofBits, int n) {
      bits = ofBits;
      size = ofBits == 0 ? 0 : n;
      Arrays.fill(numbers, 0L);
      return size;
    }

    long change(int i, long v) {
      long was = numbers[i];
      numbers[i] = bits == 8 ? (byte) v : bits == 16 ? (short) v : v;
      return was;
    }

    boolean hasFrom(int from, int n) {
      return from >= 0 && n >= 0 && from <= size - n;
    }

    /** How many numbers, from the first on, are the SETS found. */
    int rightOnes(SetList sets) {
      int right = 0;
      while (right < size && right < sets.size && numbers[right] == sets.found[right]) {
        right++;
      }
      return right;
    }
  }
}
