import java.math.BigInteger;
import java.util.ArrayDeque;
import java.util.ArrayList;
import java.util.Deque;
import java.util.HashMap;
import java.util.List;
import java.util.Map;
import java.util.TreeSet;
import java.util.regex.Matcher;
import java.util.regex.Pattern;

/**
 * The document once more, word by word and without any care for speed: what RandomRunsTest holds
 * the class against. It shares no code and no way of working with ElderChest.
 */
final class PlainChest {
  static final int BEYOND = -1000000001;
  static final int FULL = -1000000002;
  static final int KIND = -1000000003;
  static final int NONE = -1000000004;
  static final int STATE = -1000000005;
  static final int MISSING = -1000000006;
  static final int SIZE = -1000000007;

  /** What image() keeps. */
  private static final class Kept {
    List<Integer> weights = new ArrayList<>();
    TreeSet<Integer> gone = new TreeSet<>();
    List<TreeSet<Integer>> rings = new ArrayList<>();
    List<int[]> lent = new ArrayList<>();
    List<Node[]> texts = new ArrayList<>();
    int theText = -1;
    List<Hung> hung = new ArrayList<>();

    Kept again() {
      Kept k = new Kept();
      k.weights.addAll(weights);
      k.gone.addAll(gone);
      for (TreeSet<Integer> ring : rings) {
        k.rings.add(new TreeSet<>(ring));
      }
      k.lent.addAll(lent);
      k.texts.addAll(texts);
      k.theText = theText;
      k.hung.addAll(hung);
      return k;
    }
  }

  private record Node(String word, int number, TreeSet<Integer> part, Node left, Node right) {}

  private record Hung(int kind, int key, int first, int second, BigInteger cost, BigInteger locks) {}

  private record Token(String text, int place) {}

  private Kept now = new Kept();
  private Kept image;
  private final StringBuilder tape = new StringBuilder();
  private final int[] bits = new int[4];
  private final long[][] sheets = new long[4][];
  private final Map<Integer, Integer> findings = new HashMap<>();

  private int tell(int finding) {
    findings.merge(finding, 1, Integer::sum);
    return finding;
  }

  // ---- sets

  private boolean isElder(int e) {
    return 0 <= e && e < now.weights.size();
  }

  private boolean isSet(int set) {
    return set >= 0 && set < Math.pow(2, now.weights.size());
  }

  private TreeSet<Integer> members(int set) {
    TreeSet<Integer> those = new TreeSet<>();
    for (int e = 0; e < now.weights.size(); e++) {
      if ((set & 1 << e) != 0 && !now.gone.contains(e)) {
        those.add(e);
      }
    }
    return those;
  }

  private TreeSet<Integer> all() {
    return members(-1);
  }

  private static int number(TreeSet<Integer> set) {
    int sum = 0;
    for (int e : set) {
      sum += 1 << e;
    }
    return sum;
  }

  /** The numbers of all SETS of ALL. */
  private List<Integer> sets() {
    List<Integer> sets = new ArrayList<>();
    for (int set = 0; set < 1024; set++) {
      if (isSet(set) && number(members(set)) == set) {
        sets.add(set);
      }
    }
    return sets;
  }

  private static boolean isPartOf(int a, int b) {
    return a != b && (a | b) == b;
  }

  // ---- elders, texts

  int elder(int weight) {
    if (weight < 0 || weight > 9) {
      return tell(BEYOND);
    }
    if (now.weights.size() == 10) {
      return tell(FULL);
    }
    now.weights.add(weight);
    now.rings.add(new TreeSet<>());
    return now.weights.size() - 1;
  }

  int of(int elder, int what) {
    if (!isElder(elder) || what < 0 || what > 4) {
      return tell(BEYOND);
    }
    int lent = 0;
    for (int[] one : now.lent) {
      lent += one[0] == elder ? 1 : 0;
    }
    TreeSet<Integer> ring = now.rings.get(elder);
    int gone = now.gone.contains(elder) ? 1 : 0;
    return new int[] {now.weights.get(elder), gone, number(ring), ring.size(), lent}[what];
  }

  int gone(int elder, boolean on) {
    if (!isElder(elder)) {
      return tell(BEYOND);
    }
    return (on ? now.gone.add(elder) : now.gone.remove(elder)) ? 1 : 0;
  }

  int feed(int bytes, int n) {
    if (n < 1 || n > 4) {
      return tell(BEYOND);
    }
    if (tape.length() + n > 120) {
      return tell(FULL);
    }
    for (int i = n - 1; i >= 0; i--) {
      tape.append((char) (bytes >> i * 8 & 0xFF));
    }
    return tape.length();
  }

  int wipe() {
    int had = tape.length();
    tape.setLength(0);
    return had;
  }

  private static final Pattern TOKEN = Pattern.compile("[a-z]+|[0-9]+|[()\\[\\]]");

  private List<Token> tokens() {
    List<Token> list = new ArrayList<>();
    Matcher matcher = TOKEN.matcher(tape);
    int at = 0;
    while (at < tape.length()) {
      if (tape.charAt(at) == ' ') {
        at++;
      } else if (matcher.region(at, tape.length()).lookingAt()) {
        list.add(new Token(matcher.group(), at));
        at = matcher.end();
      } else {
        list.add(new Token("?", at));
        at++;
      }
    }
    list.add(new Token("", tape.length()));
    return list;
  }

  private static boolean isNumber(String token, int greatest) {
    return token.matches("[0-9]+")
        && new BigInteger(token).compareTo(BigInteger.valueOf(greatest)) <= 0;
  }

  /**
   * A machine with states instead of a reader by rules: it says at which TOKEN it stops, and what
   * it has put together by then.
   */
  private static final class Machine {
    String state = "may";
    boolean never;
    Deque<String> open = new ArrayDeque<>();
    Deque<Node> parts = new ArrayDeque<>();
    Deque<String> signs = new ArrayDeque<>();
    String word;
    int number;
    TreeSet<Integer> part;
    Node mayE;
    boolean ended;

    boolean takes(String t) {
      switch (state) {
        case "may":
          state = "operand";
          return t.equals("may");
        case "operand":
          return takesOperand(t);
        case "number":
          number = isNumber(t, 99) ? Integer.parseInt(t) : -1;
          state = word.equals("weigh") ? "behind" : "of";
          if (state.equals("behind")) {
            closeOperand();
          }
          return number >= 0;
        case "of":
          state = "part";
          return t.equals("of");
        case "part":
          return takesPart(t);
        case "first in list":
          state = "in list";
          return takesListed(t);
        case "in list":
          if (t.equals("]")) {
            closeOperand();
            return true;
          }
          return takesListed(t);
        default:
          return takesBehind(t);
      }
    }

    boolean takesOperand(String t) {
      word = t;
      part = new TreeSet<>();
      switch (t) {
        case "not":
        case "(":
          if (open.size() == 6) {
            return false;
          }
          open.push(t);
          signs.push(t);
          return true;
        case "least":
        case "weigh":
          state = "number";
          return true;
        case "all":
        case "any":
          state = "part";
          return true;
        default:
          return false;
      }
    }

    boolean takesPart(String t) {
      if (t.equals("everyone")) {
        part = null;
        closeOperand();
        return true;
      }
      state = "first in list";
      return t.equals("[");
    }

    boolean takesListed(String t) {
      if (!isNumber(t, 9)) {
        return false;
      }
      part.add(Integer.parseInt(t));
      return true;
    }

    void closeOperand() {
      state = "behind";
      parts.push(new Node(word, number, part, null, null));
      endNots();
    }

    void endNots() {
      while (!open.isEmpty() && open.peek().equals("not")) {
        open.pop();
        signs.pop();
        parts.push(new Node("not", 0, null, parts.pop(), null));
      }
    }

    /** Joins what binds at least as strongly as a sign. */
    void join(String sign) {
      while (!signs.isEmpty()
          && (signs.peek().equals("and") || signs.peek().equals("or") && !sign.equals("and"))) {
        Node right = parts.pop();
        Node left = parts.pop();
        parts.push(new Node(signs.pop(), 0, null, left, right));
      }
    }

    boolean takesBehind(String t) {
      switch (t) {
        case "or":
        case "and":
          join(t);
          signs.push(t);
          state = "operand";
          return true;
        case ")":
          if (open.isEmpty()) {
            return false;
          }
          join(t);
          open.pop();
          signs.pop();
          endNots();
          return true;
        case "never":
          if (never || !open.isEmpty()) {
            return false;
          }
          never = true;
          join(t);
          mayE = parts.pop();
          state = "operand";
          return true;
        case "":
          join(t);
          ended = open.isEmpty();
          return ended;
        default:
          return false;
      }
    }
  }

  int text() {
    if (now.texts.size() == 8) {
      return tell(FULL);
    }
    Machine machine = new Machine();
    for (Token token : tokens()) {
      if (!machine.takes(token.text())) {
        return -1 - token.place();
      }
    }
    Node last = machine.parts.pop();
    now.texts.add(machine.never ? new Node[] {machine.mayE, last} : new Node[] {last});
    tape.setLength(0);
    if (now.theText == -1) {
      now.theText = now.texts.size() - 1;
    }
    return now.texts.size() - 1;
  }

  int use(int text) {
    if (text < 0 || text >= now.texts.size()) {
      return tell(BEYOND);
    }
    int was = now.theText;
    now.theText = text;
    return was;
  }

  private boolean holds(Node node, TreeSet<Integer> set) {
    TreeSet<Integer> part = node.part() == null ? all() : node.part();
    TreeSet<Integer> both = new TreeSet<>(set);
    both.retainAll(part);
    switch (node.word()) {
      case "not":
        return !holds(node.left(), set);
      case "and":
        return holds(node.left(), set) && holds(node.right(), set);
      case "or":
        return holds(node.left(), set) || holds(node.right(), set);
      case "least":
        return both.size() >= node.number();
      case "any":
        return !both.isEmpty();
      case "all":
        TreeSet<Integer> wanted = new TreeSet<>(part);
        wanted.retainAll(all());
        return set.containsAll(wanted);
      default:
        int weight = 0;
        for (int e : set) {
          weight += now.weights.get(e);
        }
        return weight >= node.number();
    }
  }

  private boolean mayBy(int text, int set) {
    Node[] parts = now.texts.get(text);
    TreeSet<Integer> those = members(set);
    return holds(parts[0], those) && (parts.length == 1 || !holds(parts[1], those));
  }

  private boolean[] mayTable() {
    boolean[] table = new boolean[1024];
    for (int set : sets()) {
      table[set] = mayBy(now.theText, set);
    }
    return table;
  }

  int may(int text, int set) {
    if (text < 0 || text >= now.texts.size() || !isSet(set)) {
      return tell(BEYOND);
    }
    return mayBy(text, set) ? 1 : 0;
  }

  private int fall(boolean[] table) {
    for (int set : sets()) {
      for (int e : all()) {
        if (table[set] && !table[set | 1 << e]) {
          return 16 * set + e;
        }
      }
    }
    return -1;
  }

  int more() {
    if (now.theText < 0) {
      return tell(STATE);
    }
    int fall = fall(mayTable());
    return fall < 0 ? tell(NONE) : fall;
  }

  private List<Integer> smallest(boolean[] table) {
    List<Integer> list = new ArrayList<>();
    for (int set : sets()) {
      boolean in = table[set];
      for (int other : sets()) {
        in = in && !(isPartOf(other, set) && table[other]);
      }
      if (in) {
        list.add(set);
      }
    }
    return list;
  }

  private List<Integer> greatest(boolean[] table) {
    List<Integer> list = new ArrayList<>();
    for (int set : sets()) {
      boolean in = !table[set];
      for (int other : sets()) {
        in = in && !(isPartOf(set, other) && !table[other]);
      }
      if (in) {
        list.add(set);
      }
    }
    return list;
  }

  private int listed(List<Integer> list, int i) {
    if (i == -1) {
      return list.size();
    }
    return i < list.size() ? list.get(i) : tell(NONE);
  }

  int least(int i) {
    if (now.theText < 0) {
      return tell(STATE);
    }
    return i < -1 ? tell(BEYOND) : listed(smallest(mayTable()), i);
  }

  int most(int i) {
    if (now.theText < 0) {
      return tell(STATE);
    }
    return i < -1 ? tell(BEYOND) : listed(greatest(mayTable()), i);
  }

  // ---- hangings, keys

  private boolean isHung(int h) {
    return 0 <= h && h < now.hung.size();
  }

  private static boolean isKey(int key) {
    return 0 <= key && key <= 23;
  }

  private int hang(Hung one) {
    if (now.hung.size() == 40) {
      return tell(FULL);
    }
    now.hung.add(one);
    return now.hung.size() - 1;
  }

  int lock(int key, boolean old) {
    if (!isKey(key)) {
      return tell(BEYOND);
    }
    return hang(new Hung(old ? 5 : 1, key, -1, -1, BigInteger.valueOf(old ? 3 - 1 : 3),
        BigInteger.ONE));
  }

  int chain(int a, int b, boolean row) {
    if (!isHung(a) || !isHung(b)) {
      return tell(BEYOND);
    }
    Hung first = now.hung.get(a);
    Hung second = now.hung.get(b);
    BigInteger cost = first.cost().add(second.cost()).add(BigInteger.valueOf(row ? 1 + 1 : 1));
    return hang(new Hung(row ? 3 : 2, -1, a, b, cost, first.locks().add(second.locks())));
  }

  int box(int hanging, int key) {
    if (!isHung(hanging) || !isKey(key)) {
      return tell(BEYOND);
    }
    Hung inner = now.hung.get(hanging);
    return hang(new Hung(4, key, hanging, -1, inner.cost().add(BigInteger.valueOf(4)),
        inner.locks()));
  }

  int hanging(int h, int what) {
    if (!isHung(h) || what < 0 || what > 5) {
      return tell(BEYOND);
    }
    Hung one = now.hung.get(h);
    int[] tells = {one.kind(), one.key(), one.first(), one.second(), one.cost().intValue(),
        one.locks().intValue()};
    return what >= 1 && what <= 3 && tells[what] == -1 ? tell(KIND) : tells[what];
  }

  int as(int h, int kind) {
    if (!isHung(h) || kind < 0 || kind > 5) {
      return tell(BEYOND);
    }
    int own = now.hung.get(h).kind();
    int[] above = {0, 0, 0, 2, 0, 1};
    return kind == own || kind == above[own] || kind == 0 ? h : tell(KIND);
  }

  int key(int elder, int key, boolean on) {
    if (!isElder(elder) || !isKey(key)) {
      return tell(BEYOND);
    }
    TreeSet<Integer> ring = now.rings.get(elder);
    return (on ? ring.add(key) : ring.remove(key)) ? 1 : 0;
  }

  int lend(int from, int to, int key) {
    if (!isElder(from) || !isElder(to) || from == to || !isKey(key)) {
      return tell(BEYOND);
    }
    if (!now.rings.get(from).contains(key)) {
      return tell(NONE);
    }
    if (now.lent.size() == 20) {
      return tell(FULL);
    }
    now.lent.add(new int[] {to, key});
    return now.lent.size();
  }

  private int ringsOf(int set) {
    int keys = 0;
    for (int e : members(set)) {
      keys |= number(now.rings.get(e));
    }
    return keys;
  }

  private boolean opensWith(int h, int keys, Boolean[] known) {
    if (known[h] == null) {
      Hung one = now.hung.get(h);
      switch (one.kind()) {
        case 1:
          known[h] = (keys & 1 << one.key()) != 0;
          break;
        case 5:
          int next = one.key() == 23 ? 0 : one.key() + 1;
          known[h] = (keys & 1 << one.key()) != 0 || (keys & 1 << next) != 0;
          break;
        case 2:
          known[h] = opensWith(one.first(), keys, known) || opensWith(one.second(), keys, known);
          break;
        case 3:
          known[h] = opensWith(one.first(), keys, known) && opensWith(one.second(), keys, known);
          break;
        default:
          known[h] = opensWith(one.first(), keys, known);
      }
    }
    return known[h];
  }

  /** The ROUNDS of all BOXES (0: in none), and behind them the KEYS had in the end. */
  private int[] rounds(int keys) {
    int many = now.hung.size();
    int[] rounds = new int[many + 1];
    for (int round = 1; ; round++) {
      Boolean[] known = new Boolean[many];
      int found = 0;
      boolean any = false;
      for (int h = 0; h < many; h++) {
        if (now.hung.get(h).kind() == 4 && rounds[h] == 0 && opensWith(h, keys, known)) {
          rounds[h] = round;
          found |= 1 << now.hung.get(h).key();
          any = true;
        }
      }
      keys |= found;
      if (!any) {
        rounds[many] = keys;
        return rounds;
      }
    }
  }

  private int end(int keys) {
    return rounds(keys)[now.hung.size()];
  }

  private boolean openedBy(int h, int keys) {
    return opensWith(h, end(keys), new Boolean[now.hung.size()]);
  }

  private boolean[] openTable(int h) {
    boolean[] table = new boolean[1024];
    for (int set : sets()) {
      table[set] = openedBy(h, ringsOf(set));
    }
    return table;
  }

  int opens(int h, int set) {
    if (!isHung(h) || !isSet(set)) {
      return tell(BEYOND);
    }
    return openedBy(h, ringsOf(set)) ? 1 : 0;
  }

  int had(int set) {
    return isSet(set) ? end(ringsOf(set)) : tell(BEYOND);
  }

  int round(int h, int set) {
    if (!isHung(h) || !isSet(set)) {
      return tell(BEYOND);
    }
    if (now.hung.get(h).kind() != 4) {
      return tell(KIND);
    }
    return rounds(ringsOf(set))[h];
  }

  // ---- what a hanging lets

  int lets(int h, int i) {
    return !isHung(h) || i < -1 ? tell(BEYOND) : listed(smallest(openTable(h)), i);
  }

  int shut(int h, int i) {
    return !isHung(h) || i < -1 ? tell(BEYOND) : listed(greatest(openTable(h)), i);
  }

  int wrongly(int h) {
    if (!isHung(h)) {
      return tell(BEYOND);
    }
    if (now.theText < 0) {
      return tell(STATE);
    }
    for (int set : sets()) {
      if (openedBy(h, ringsOf(set)) && !mayBy(now.theText, set)) {
        return set;
      }
    }
    return tell(NONE);
  }

  int lacks(int h) {
    if (!isHung(h)) {
      return tell(BEYOND);
    }
    if (now.theText < 0) {
      return tell(STATE);
    }
    for (int set : sets()) {
      if (!openedBy(h, ringsOf(set)) && mayBy(now.theText, set)) {
        return set;
      }
    }
    return tell(NONE);
  }

  int same(int a, int b) {
    if (!isHung(a) || !isHung(b)) {
      return tell(BEYOND);
    }
    return java.util.Arrays.equals(openTable(a), openTable(b)) ? 1 : 0;
  }

  int bears(int h, int n) {
    if (!isHung(h) || n < 0 || n > all().size()) {
      return tell(BEYOND);
    }
    for (int away : sets()) {
      int others = number(all()) - away;
      if (members(away).size() == n && !openedBy(h, ringsOf(others))) {
        return 0;
      }
    }
    return 1;
  }

  int need(int h, int set) {
    if (!isHung(h) || !isSet(set)) {
      return tell(BEYOND);
    }
    int best = -1;
    int rings = ringsOf(set);
    // A KEY told twice or thrice makes the SETS of fewer than three.
    for (int a = -1; a < 24; a++) {
      for (int b = a; b < 24; b++) {
        for (int c = b; c < 24; c++) {
          int keys = (a < 0 ? 0 : 1 << a) | (b < 0 ? 0 : 1 << b) | (c < 0 ? 0 : 1 << c);
          boolean better = best < 0 || Integer.bitCount(keys) < Integer.bitCount(best)
              || Integer.bitCount(keys) == Integer.bitCount(best) && keys < best;
          if (better && openedBy(h, rings | keys)) {
            best = keys;
          }
        }
      }
    }
    return best < 0 ? tell(NONE) : best;
  }

  int could(int h) {
    if (!isHung(h)) {
      return tell(BEYOND);
    }
    int those = 0;
    for (int e : all()) {
      int keys = number(now.rings.get(e));
      for (int[] one : now.lent) {
        keys |= one[0] == e ? 1 << one[1] : 0;
      }
      those |= openedBy(h, keys) ? 1 << e : 0;
    }
    return those;
  }

  // ---- made from a text

  int build() {
    if (now.theText < 0) {
      return tell(STATE);
    }
    if (fall(mayTable()) >= 0) {
      return tell(KIND);
    }
    List<Integer> list = greatest(mayTable());
    if (list.isEmpty()) {
      return tell(NONE);
    }
    if (list.size() > 24 || now.hung.size() + list.size() + list.size() - 1 > 40) {
      return tell(FULL);
    }
    now.rings.replaceAll(ring -> new TreeSet<>());
    int first = now.hung.size();
    for (int i = 0; i < list.size(); i++) {
      lock(i, false);
      for (int e : all()) {
        if ((list.get(i) & 1 << e) == 0) {
          now.rings.get(e).add(i);
        }
      }
    }
    int last = first;
    for (int i = 1; i < list.size(); i++) {
      last = chain(last, first + i, true);
    }
    return last;
  }

  int fewest() {
    if (now.theText < 0) {
      return tell(STATE);
    }
    List<Integer> sets = sets();
    if (all().isEmpty() || all().size() > 4) {
      return tell(SIZE);
    }
    boolean[] table = mayTable();
    if (fall(table) >= 0) {
      return tell(KIND);
    }
    long wanted = truth(sets, table);
    if (wanted == 0 || wanted == (1L << sets.size()) - 1) {
      return tell(NONE);
    }
    return fewestLocks(sets, wanted);
  }

  private static long truth(List<Integer> sets, boolean[] table) {
    long truth = 0;
    for (int i = 0; i < sets.size(); i++) {
      truth |= table[sets.get(i)] ? 1L << i : 0;
    }
    return truth;
  }

  /** Betters what is known of each truth by all pairs, till nothing gets better. */
  private int fewestLocks(List<Integer> sets, long wanted) {
    Map<Long, Integer> locks = new HashMap<>();
    for (int e : all()) {
      boolean[] table = new boolean[1024];
      for (int set : sets) {
        table[set] = (set & 1 << e) != 0;
      }
      locks.put(truth(sets, table), 1);
    }
    boolean better = true;
    while (better) {
      better = false;
      for (Map.Entry<Long, Integer> a : new ArrayList<>(locks.entrySet())) {
        for (Map.Entry<Long, Integer> b : new ArrayList<>(locks.entrySet())) {
          int sum = a.getValue() + b.getValue();
          for (long joined : new long[] {a.getKey() | b.getKey(), a.getKey() & b.getKey()}) {
            if (locks.getOrDefault(joined, Integer.MAX_VALUE) > sum) {
              locks.put(joined, sum);
              better = true;
            }
          }
        }
      }
    }
    return locks.get(wanted);
  }

  private boolean isSpare(int h, int elder, int key) {
    boolean[] with = openTable(h);
    now.rings.get(elder).remove(key);
    boolean[] without = openTable(h);
    now.rings.get(elder).add(key);
    return java.util.Arrays.equals(with, without);
  }

  int spare(int h, int elder, int key) {
    if (!isHung(h) || !isElder(elder) || !isKey(key)) {
      return tell(BEYOND);
    }
    if (!now.rings.get(elder).contains(key)) {
      return tell(NONE);
    }
    return isSpare(h, elder, key) ? 1 : 0;
  }

  int thin(int h) {
    if (!isHung(h)) {
      return tell(BEYOND);
    }
    int many = 0;
    for (TreeSet<Integer> ring : now.rings) {
      for (int key : new ArrayList<>(ring)) {
        int elder = now.rings.indexOf(ring);
        // indexOf asks for like RINGS, not for this one.
        for (int e = 0; e < now.rings.size(); e++) {
          elder = now.rings.get(e) == ring ? e : elder;
        }
        if (isSpare(h, elder, key)) {
          ring.remove(key);
          many++;
        }
      }
    }
    return many;
  }

  int heavy(int what) {
    if (what < 0 || what > 2) {
      return tell(BEYOND);
    }
    if (all().isEmpty()) {
      return tell(NONE);
    }
    int whose = all().first();
    int together = 0;
    for (int e : all()) {
      together += now.rings.get(e).size();
      whose = now.rings.get(e).size() > now.rings.get(whose).size() ? e : whose;
    }
    return what == 0 ? now.rings.get(whose).size() : what == 1 ? whose : together;
  }

  int judge(int s, int h) {
    if (s < 0 || s > 3) {
      return tell(BEYOND);
    }
    if (sheets[s] == null) {
      return tell(MISSING);
    }
    if (!isHung(h)) {
      return tell(BEYOND);
    }
    List<Integer> lets = smallest(openTable(h));
    int right = 0;
    for (int i = 0; i < sheets[s].length; i++) {
      if (right == i && i < lets.size() && sheets[s][i] == lets.get(i)) {
        right++;
      }
    }
    return right == lets.size() && right == sheets[s].length ? 0 : right + 1;
  }

  // ---- sheets

  int sheet(int s, int ofBits, int n) {
    if (s < 0 || s > 3 || !List.of(0, 8, 16, 64).contains(ofBits)) {
      return tell(BEYOND);
    }
    if (n < 0) {
      return tell(SIZE);
    }
    if (n > 40) {
      return tell(BEYOND);
    }
    bits[s] = ofBits;
    sheets[s] = ofBits == 0 ? null : new long[n];
    return ofBits == 0 ? 0 : n;
  }

  long write(int s, int i, long v) {
    if (s < 0 || s > 3) {
      return tell(BEYOND);
    }
    if (sheets[s] == null) {
      return tell(MISSING);
    }
    if (i < 0 || i >= sheets[s].length) {
      return tell(BEYOND);
    }
    long was = sheets[s][i];
    sheets[s][i] = v << 64 - bits[s] >> 64 - bits[s];
    return was;
  }

  int copy(int s, int from, int t, int to, int n) {
    if (s < 0 || s > 3 || t < 0 || t > 3) {
      return tell(BEYOND);
    }
    if (sheets[s] == null || sheets[t] == null) {
      return tell(MISSING);
    }
    if (bits[s] != bits[t]) {
      return tell(KIND);
    }
    if (from < 0 || to < 0 || n < 0 || (long) from + n > sheets[s].length
        || (long) to + n > sheets[t].length) {
      return tell(BEYOND);
    }
    long[] were = sheets[s].clone();
    for (int i = 0; i < n; i++) {
      sheets[t][to + i] = were[from + i];
    }
    return n;
  }

  // ---- images

  int image() {
    image = now.again();
    return 1;
  }

  int undo() {
    if (image == null) {
      return tell(NONE);
    }
    now = image.again();
    return now.hung.size();
  }

  int tear() {
    int was = image == null ? 0 : 1;
    image = null;
    return was;
  }

  int look(int what) {
    int[] tells = {now.weights.size(), all().size(), now.texts.size(), now.theText,
        now.hung.size(), now.lent.size(), tape.length()};
    return what < 0 || what > 6 ? tell(BEYOND) : tells[what];
  }

  int status(int which) {
    if (which < -1 || which > 6) {
      return tell(BEYOND);
    }
    int sum = 0;
    for (Map.Entry<Integer, Integer> one : findings.entrySet()) {
      sum += which == -1 || one.getKey() == BEYOND - which ? one.getValue() : 0;
    }
    return sum;
  }
}
