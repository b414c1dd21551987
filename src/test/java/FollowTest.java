import java.util.ArrayList;
import java.util.Arrays;
import java.util.List;

/**
 * Each call that changes something, between two rounds of questions: the second round answers what a
 * like object answers that was never asked before.
 */
final class FollowTest {
  private static final Bounds.Act[] CHANGES = {
      x -> x.elder(9), x -> x.gone(0, true), x -> x.gone(1, false), x -> x.use(0),
      x -> Due.read(x, "may any everyone"), x -> x.lock(3, false), x -> x.lock(0, true),
      x -> x.chain(0, 1, true), x -> x.box(1, 7), x -> x.box(0, 0), x -> x.key(3, 7, true),
      x -> x.key(0, 7, false), x -> x.key(2, 0, false), x -> x.lend(0, 3, 7), x -> x.build(),
      x -> x.thin(0), x -> x.thin(2), x -> x.undo(), x -> x.image(), x -> x.tear()};

  public static void main(String[] args) {
    Due.runAll(FollowTest.class);
  }

  static void promise20To36FollowOneChange() {
    for (int i = 0; i < CHANGES.length; i++) {
      follows(i);
    }
  }

  static void promise20To36FollowTwoChanges() {
    for (int i = 0; i < CHANGES.length; i++) {
      for (int j = 0; j < CHANGES.length; j++) {
        follows(i, j);
      }
    }
  }

  private static void follows(int... changes) {
    ElderChest asked = Bounds.made(Bounds::some);
    ElderChest fresh = Bounds.made(Bounds::some);
    List<Long> told = answers(asked);
    for (int change : changes) {
      CHANGES[change].on(asked);
      CHANGES[change].on(fresh);
      told = answers(asked);
    }
    Due.due("answers behind the changes " + Arrays.toString(changes), told.equals(answers(fresh)));
  }

  private static List<Long> answers(ElderChest x) {
    List<Long> told = new ArrayList<>();
    int all = (1 << x.look(0)) - 1;
    told.add((long) x.more());
    told.add((long) x.fewest());
    told.add((long) x.had(all));
    told.add((long) x.heavy(0));
    for (int i = -1; i < 3; i++) {
      told.add((long) x.least(i));
      told.add((long) x.most(i));
    }
    for (int h = 0; h < 4; h++) {
      told.add((long) x.lets(h, -1));
      told.add((long) x.lets(h, 0));
      told.add((long) x.shut(h, 0));
      told.add((long) x.wrongly(h));
      told.add((long) x.lacks(h));
      told.add((long) x.same(h, 0));
      told.add((long) x.bears(h, 1));
      told.add((long) x.need(h, 4));
      told.add((long) x.could(h));
      told.add((long) x.spare(h, 0, 7));
      told.add((long) x.opens(h, all));
    }
    return told;
  }
}
