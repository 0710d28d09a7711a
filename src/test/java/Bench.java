import java.util.ArrayList;
import java.util.HashMap;
import java.util.List;
import java.util.Map;

/** What the tests of promises and boundaries share: objects to ask, answers that are due, and that a call changes nothing. */
final class Bench {
  static final int UNKNOWN = -1, OUTSIDE = -2, STATE = -3, FULL = -4, SPENT = -5, NONE = -9;
  static final int LOW = Integer.MIN_VALUE, HIGH = Integer.MAX_VALUE;

  interface Recipe { NearCopies make(); }
  interface Call { long on(NearCopies x); }
  interface CallWith { long on(NearCopies x, int number); }

  private static final Map<Recipe, List<Long>> UNTOUCHED = new HashMap<>();
  private static int checks = 0;
  private static int wrong = 0;

  private Bench() { }

  static void due(String what, long got, long want) {
    checks++;
    if (got != want) {
      wrong++;
      System.out.println(what + " answered " + got + ", due is " + want);
    }
  }

  static void dueRow(String what, long[] got, long... want) {
    due(what + ": how many", got.length, want.length);
    for (int i = 0; i < Math.min(got.length, want.length); i++) due(what + ": at " + i, got[i], want[i]);
  }

  static void end(String name) {
    System.out.println(wrong == 0 ? name + ": " + checks + " answers are as due" : wrong + " answers are not as due");
    if (wrong != 0) System.exit(1);
  }

  /** The answer is due, and behind the call the object answers everything as one on which it was not made. */
  static void still(String what, Recipe recipe, Call call, long want) {
    NearCopies x = recipe.make();
    due(what, call.on(x), want);
    List<Long> behind = everything(x);
    List<Long> untouched = UNTOUCHED.computeIfAbsent(recipe, r -> everything(r.make()));
    due(what + ": changed something; of all answers those that stay", likeOnes(behind, untouched), untouched.size());
  }

  /** The first beyond both ends, and the farthest, are refused and change nothing. */
  static void refusedBeyond(String what, Recipe recipe, CallWith call, int least, int greatest, int refusal) {
    for (int number : new int[] {least - 1, greatest + 1, LOW, HIGH}) {
      still(what + " with " + number, recipe, x -> call.on(x, number), refusal);
    }
  }

  /** Both ends and what is next to them are taken and told back by the next call; what is beyond is OUTSIDE. */
  static void takenWithin(String what, Recipe recipe, CallWith call, int least, int greatest) {
    for (int number : new int[] {least, least + 1, greatest - 1, greatest}) {
      NearCopies x = recipe.make();
      due(what + " takes " + number, call.on(x, number) >= 0 ? 1 : 0, 1);
      due(what + " tells " + number + " back", call.on(x, least), number);
    }
    refusedBeyond(what, recipe, call, least, greatest, OUTSIDE);
  }

  /** 0 to amount - 1 are there, those beside them are UNKNOWN. */
  static void known(String what, Recipe recipe, CallWith call, int amount) {
    for (int number = 0; number < amount; number++) {
      due(what + " knows " + number, call.on(recipe.make(), number) == UNKNOWN ? 1 : 0, 0);
    }
    refusedBeyond(what, recipe, call, 0, amount - 1, UNKNOWN);
  }

  private static int likeOnes(List<Long> some, List<Long> others) {
    int alike = 0;
    for (int i = 0; i < Math.min(some.size(), others.size()); i++) if (some.get(i).equals(others.get(i))) alike++;
    return alike;
  }

  /** All that can be asked. What is told only by changing it comes last, so one object can be asked once. */
  private static List<Long> everything(NearCopies x) {
    List<Long> all = new ArrayList<>();
    int nets = x.count(0);
    int sites = x.count(2);
    int trials = x.count(4);
    for (int what = 0; what < 7; what++) add(all, x.count(what));
    add(all, x.rounds(), x.excess(), x.sum(), x.cases(), x.agree(), x.quarrel(), x.next(false), x.next(true));
    add(all, x.best(false), x.best(true), x.bestSum(false), x.bestSum(true), x.steps(), x.stepWorst());
    for (int i = 0; i < 4; i++) add(all, x.step(i));
    for (int net = 0; net < nets; net++) {
      add(all, x.comes(net), x.names(net), x.way(net, 1), x.told(net), x.why(net), x.could(net), x.rules(net));
      for (int other = 0; other < net; other++) add(all, x.tied(net, other));
    }
    for (int site = 0; site < sites; site++) {
      add(all, x.load(site), x.without(site), x.moves(site, 4), x.bestKind(false, site), x.bestKind(true, site));
    }
    for (int site = 0; site < sites; site++) {
      add(all, x.aim(site, 0), x.kind(site, 0), x.held(site, 0), x.near(site, false), x.up(site, true), x.room(site, 0));
      for (int net = 0; net < nets; net++) add(all, x.late(net, site, 0));
    }
    for (int net = 0; net < nets; net++) {
      for (int trial = 0; trial < trials; trial++) add(all, x.seen(trial, net, 4));
      add(all, x.askers(net, 0), x.guess(net, 1));
    }
    add(all, x.trial(), x.net(0));
    return all;
  }

  private static void add(List<Long> all, long... answers) {
    for (long answer : answers) all.add(answer);
  }

  // ---- objects to ask

  static final Recipe NEW = NearCopies::new;
  static final Recipe LIVED = Bench::lived;
  static final Recipe CROWDED = Bench::crowded;
  static final Recipe RING = Bench::ring;
  static final Recipe MOST_CASES = () -> withCases(256);
  static final Recipe SPENT_CASES = () -> withCases(288);

  static NearCopies nets(int... askers) {
    NearCopies x = new NearCopies();
    for (int n : askers) x.net(n);
    return x;
  }

  /** Three nets, two sites, something said of each part: a change anywhere can be seen. */
  static NearCopies lived() {
    NearCopies x = nets(7, 8, 9);
    x.tie(1, 0, true);
    x.tie(2, 0, false);
    x.site(1, 5);
    x.site(2, 6);
    x.kind(0, 1);
    x.held(0, 4);
    x.near(1, true);
    x.late(0, 0, 11);
    x.late(1, 1, 12);
    x.guess(0, 7);
    x.guess(2, 3);
    x.trial();
    x.seen(0, 0, 0);
    x.aim(1, 3);
    return x;
  }

  /** All that there is room for: ten nets, twenty ties, four sites, six trials. */
  static NearCopies crowded() {
    NearCopies x = new NearCopies();
    for (int net = 0; net < 10; net++) x.net(100 * net);
    for (int net = 0; net < 9; net++) x.tie(net, net + 1, true);
    for (int net = 0; net < 8; net++) x.tie(net, net + 2, true);
    for (int net = 0; net < 3; net++) x.tie(net, 9 - net, false);
    for (int site = 0; site < 4; site++) x.site(3 * site, 500);
    for (int trial = 0; trial < 6; trial++) x.trial();
    x.guess(5, 3);
    x.aim(3, 2);
    return x;
  }

  /**
   * 2 buys from 1, 1 from 0, 0 from 3; site 0 at 2 (three names), site 1 at 3 (one). Net 0 takes the one who pays,
   * net 1 the fewest names: 0 takes 1's word, then 1 takes 0's, then both see themselves in it, and so on.
   */
  static NearCopies ring() {
    NearCopies x = nets(10, 20, 30, 40);
    x.tie(2, 1, true);
    x.tie(1, 0, true);
    x.tie(0, 3, true);
    x.site(2, 15);
    x.kind(0, 2);
    x.site(3, 25);
    x.guess(1, 4);
    return x;
  }

  /** Five nets with a site: 256 cases, or the next number that there can be, 288. */
  static NearCopies withCases(int amount) {
    NearCopies x = nets(1, 2, 3, 4, 5);
    x.tie(0, 1, false);
    x.site(0, 1);
    int[] guesses = amount == 256 ? new int[] {15, 15, 15, 15, 1} : new int[] {15, 15, 3, 7, 7};
    for (int net = 0; net < 5; net++) x.guess(net, guesses[net]);
    return x;
  }

  static final int[][] LONG_RUN_BUYS = {{1, 6}, {6, 3}, {2, 3}, {1, 5}, {5, 2}, {4, 0}, {0, 1}, {4, 1}};
  static final int[][] LONG_RUN_SWAPS = {{5, 0}, {2, 4}, {3, 4}};

  /** Found by search: the words go around for 40 rounds and then rest; what changes in the last of them is net 1. */
  static NearCopies longRun() {
    NearCopies x = nets(10, 20, 30, 40, 50, 60, 70);
    for (int[] two : LONG_RUN_BUYS) x.tie(two[0], two[1], true);
    for (int[] two : LONG_RUN_SWAPS) x.tie(two[0], two[1], false);
    x.site(6, 100);
    x.held(0, 1);
    x.site(4, 100);
    x.kind(1, 3);
    x.guess(1, 8);
    x.guess(3, 8);
    x.guess(4, 4);
    x.guess(5, 4);
    return x;
  }

  /** One who buys from the net that is the last to change would change once more. */
  static NearCopies longerRun() {
    NearCopies x = longRun();
    x.net(0);
    x.tie(7, 1, true);
    return x;
  }
}
