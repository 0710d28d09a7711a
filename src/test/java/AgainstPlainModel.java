import java.lang.reflect.Method;
import java.util.ArrayList;
import java.util.Arrays;
import java.util.HashMap;
import java.util.List;
import java.util.Map;
import java.util.Random;
import java.util.TreeMap;
import java.util.TreeSet;

/**
 * Many runs of calls, made by a fixed seed, on the class and on the plain model: all answers must be the same.
 * With two numbers as arguments (first run, how many runs) it goes on to other runs.
 */
public final class AgainstPlainModel {
  private static final int FIRST = 1;
  private static final int RUNS = 500;
  private static final int MOST_CALLS = 512;

  private static final String[] BUILDERS = {"net", "tie", "askers", "guess", "site", "room", "kind", "held", "near", "late"};
  private static final String[] CHEAP = {"tied", "askers", "guess", "room", "up", "kind", "kind", "kind", "held", "near", "late",
    "rounds", "rounds", "comes", "names", "way", "told", "why", "why", "load", "excess", "sum", "without", "moves",
    "trial", "seen", "seen", "seen", "seen", "cases", "aim", "aim", "steps", "step", "step", "stepWorst", "go", "count",
    "net", "tie", "site"};
  private static final String[] DEAR = {"agree", "could", "rules", "learn", "quarrel", "next", "next", "best", "bestSum", "bestKind"};

  private static final String[] CHANGING = {"net", "tie", "askers", "guess", "site", "room", "up", "kind", "held", "near", "late",
    "trial", "seen", "learn", "aim", "go"};

  private static final Map<String, Method> OURS = new HashMap<>();
  private static final Map<String, Method> PLAIN = new HashMap<>();
  private static final Map<String, TreeMap<String, Integer>> KINDS_OF_ANSWERS = new TreeMap<>();

  private static int mostRounds = 0;

  private final Random random;
  private final NearCopies ours = new NearCopies();
  private final PlainModel plain = new PlainModel();
  private final List<String> calls = new ArrayList<>();
  private final boolean manySwaps;
  private final boolean manyGuesses;
  private final boolean withRing;
  private final boolean withLongRun;
  private final int nets;

  private AgainstPlainModel(long seed) {
    random = new Random(seed * 7919);
    manySwaps = random.nextInt(3) == 0;
    manyGuesses = random.nextInt(6) == 0;
    withRing = random.nextInt(3) == 0;
    withLongRun = !withRing && seed % 4 == 0;
    nets = random.nextInt(8) == 0 ? random.nextInt(11) : 4 + random.nextInt(7);
  }

  private int pick(int... of) { return of[random.nextInt(of.length)]; }

  private int wild() { return pick(-1, -2, -9, -10, 5, 11, 16, 1000, 10001, 100001, Integer.MIN_VALUE, Integer.MAX_VALUE, 1 << 10, -8); }

  private boolean rarely() { return random.nextInt(40) == 0; }

  private int aNet() {
    int n = plain.askers.size();
    return rarely() ? pick(n, wild()) : random.nextInt(Math.max(1, n));
  }

  private int aSite() {
    int n = plain.said.size();
    return rarely() ? pick(n, wild()) : random.nextInt(Math.max(1, n));
  }

  private int below(int bound) { return rarely() ? pick(bound, wild()) : random.nextInt(bound); }

  private int aGuess() {
    if (rarely()) return pick(0, 16, wild());
    return manyGuesses || random.nextInt(3) == 0 ? 1 + random.nextInt(15) : 1 << pick(0, 1, 2, 2, 2, 3, 3);
  }

  private int askers() { return random.nextInt(6) == 0 ? pick(0, 10000, 10001, -1) : random.nextInt(200); }

  private int rooms() { return random.nextInt(6) == 0 ? pick(0, 100000, 100001, -1) : random.nextInt(300); }

  private int seenSite(int trial, int net) {
    if (rarely()) return wild();
    if (random.nextInt(6) == 0) return pick(4, -9, aSite());
    if (trial < 0 || trial >= plain.trials.size() || plain.noNet(net)) return aSite();
    // mostly what some case would show, so that trials cut cases without ending them all
    int[] rules = new int[plain.askers.size()];
    for (int i = 0; i < rules.length; i++) {
      do rules[i] = random.nextInt(4); while ((plain.guesses.get(i) >> rules[i] & 1) == 0);
    }
    PlainModel.Rest rest = plain.rest(plain.trials.get(trial).said, rules);
    return rest == null ? aSite() : PlainModel.siteAt(rest, net);
  }

  private Object[] arguments(String name) {
    switch (name) {
      case "net": return new Object[] {askers()};
      case "tie": return new Object[] {aNet(), aNet(), !(manySwaps ? random.nextInt(3) > 0 : random.nextInt(3) == 0)};
      case "tied": return new Object[] {aNet(), aNet()};
      case "askers": return new Object[] {aNet(), askers()};
      case "guess": return new Object[] {aNet(), aGuess()};
      case "site": return new Object[] {aNet(), rooms()};
      case "room": return new Object[] {aSite(), rooms()};
      case "up": return new Object[] {aSite(), random.nextInt(3) > 0};
      case "kind": case "moves": case "aim": return new Object[] {aSite(), below(5)};
      case "held": return new Object[] {aSite(), random.nextInt(4) == 0 ? 0 : below(1 << plain.askers.size()) & pick(-1, random.nextInt())};
      case "near": return new Object[] {aSite(), random.nextInt(4) == 0};
      case "late": return new Object[] {aNet(), aSite(), below(1000)};
      case "comes": case "names": case "told": case "why": case "could": case "rules": return new Object[] {aNet()};
      case "way": return new Object[] {aNet(), random.nextInt(8) == 0 ? pick(wild(), 9, 10) : random.nextInt(6) - 1};
      case "load": case "without": return new Object[] {aSite()};
      case "seen": {
        int trial = rarely() ? wild() : random.nextInt(Math.max(1, plain.trials.size()));
        int net = aNet();
        return new Object[] {trial, net, seenSite(trial, net)};
      }
      case "next": case "best": case "bestSum": return new Object[] {random.nextBoolean()};
      case "bestKind": return new Object[] {random.nextBoolean(), aSite()};
      case "step": return new Object[] {rarely() ? wild() : random.nextInt(5)};
      case "count": return new Object[] {rarely() ? wild() : random.nextInt(7)};
      default: return new Object[0];
    }
  }

  private boolean call(String name, Object... given) throws Exception {
    Object[] with = given.length > 0 ? given : arguments(name);
    Object got = OURS.get(name).invoke(ours, with);
    Object due = PLAIN.get(name).invoke(plain, with);
    if (name.equals("rounds")) mostRounds = Math.max(mostRounds, (int) due);
    calls.add(name + Arrays.toString(with) + " = " + got);
    String sort = ((Number) due).longValue() < 0 ? String.valueOf(due) : "0..";
    KINDS_OF_ANSWERS.computeIfAbsent(name, k -> new TreeMap<>()).merge(sort, 1, Integer::sum);
    if (got.equals(due)) return true;
    System.out.println(String.join("\n", calls));
    System.out.println("  due is " + due);
    return false;
  }

  /** Four nets that never rest (until something is changed): each buys from the next, with sites at both ends. */
  private boolean makeRing() throws Exception {
    boolean good = true;
    for (int i = 0; i < 4; i++) good = good && call("net", random.nextInt(200));
    good = good && call("tie", 2, 1, true) && call("tie", 1, 0, true) && call("tie", 0, 3, true);
    good = good && call("site", 2, random.nextInt(300)) && call("kind", 0, 2) && call("site", 3, random.nextInt(300));
    return good && call("guess", 0, pick(1, 2, 9)) && call("guess", 1, pick(4, 12, 5, 4));
  }

  /** Seven nets that rest at 40 rounds (until something is changed). */
  private boolean makeLongRun() throws Exception {
    boolean good = true;
    for (int i = 0; i < 7; i++) good = good && call("net", random.nextInt(200));
    for (int[] two : Bench.LONG_RUN_BUYS) good = good && call("tie", two[0], two[1], true);
    for (int[] two : Bench.LONG_RUN_SWAPS) good = good && call("tie", two[0], two[1], false);
    good = good && call("site", 6, random.nextInt(300)) && call("site", 4, random.nextInt(300));
    good = good && call("held", 0, 1) && call("kind", 1, 3) && call("guess", 1, 8) && call("guess", 3, 8);
    good = good && call("guess", 4, pick(4, 12)) && call("guess", 5, pick(4, 12)) && call("rounds");
    return good;
  }

  private boolean play() throws Exception {
    if (withRing && !makeRing()) return false;
    if (withLongRun && !makeLongRun()) return false;
    for (int i = plain.askers.size(); i < nets; i++) if (!call("net")) return false;
    boolean made = withRing || withLongRun;
    for (int i = made ? random.nextInt(3) : nets * 3; i > 0; i--) if (!call("tie")) return false;
    for (int i = random.nextInt(made ? 2 : 6); i > 0; i--) if (!call("site")) return false;
    for (int i = 0; i < nets && manyGuesses; i++) if (!call("guess", i, aGuess())) return false;
    for (int i = random.nextInt(made ? 4 : 60); i > 0; i--) if (!call(BUILDERS[random.nextInt(BUILDERS.length)])) return false;
    int most = Math.min(MOST_CALLS, calls.size() + 30 + random.nextInt(100));
    while (calls.size() < most) {
      boolean good = random.nextInt(16) == 0 ? askAroundChange() : call(CHEAP[random.nextInt(CHEAP.length)]);
      if (!good) return false;
    }
    return true;
  }

  /** What is kept from call to call must be forgotten where something has changed. */
  private boolean askAroundChange() throws Exception {
    String name = DEAR[random.nextInt(DEAR.length)];
    Object[] with = arguments(name);
    if (!call(name, with)) return false;
    return call(CHANGING[random.nextInt(CHANGING.length)]) && call(name, with);
  }

  /** The runs are worth something only if they meet what the document tells. */
  private static int missing() {
    int missing = 0;
    String[] wanted = {"rounds -9", "comes -1", "comes -3", "comes -9", "names -3", "way -3", "way -9", "told -3", "why -3",
      "why -9", "load -3", "excess -3", "sum -3", "without -3", "moves -3", "moves 0..", "trial -4", "agree -5", "could -5", "rules -5",
      "learn -3", "learn -5", "quarrel 0..", "quarrel -9", "quarrel -5", "next 0..", "next -9", "next -5", "step -9",
      "go -9", "go 0..", "tie -3", "tie -4", "net -4", "site -4", "held -2", "seen -9", "seen -1"};
    for (String want : wanted) {
      String[] parts = want.split(" ");
      if (!KINDS_OF_ANSWERS.getOrDefault(parts[0], new TreeMap<>()).containsKey(parts[1])) {
        System.out.println("no run met " + want);
        missing++;
      }
    }
    if (mostRounds < 40) {
      System.out.println("no run had more than " + mostRounds + " rounds");
      missing++;
    }
    return missing;
  }

  public static void main(String[] args) throws Exception {
    int first = args.length > 1 ? Integer.parseInt(args[0]) : FIRST;
    int runs = args.length > 1 ? Integer.parseInt(args[1]) : RUNS;
    for (Method m : NearCopies.class.getDeclaredMethods()) {
      if (java.lang.reflect.Modifier.isPublic(m.getModifiers())) OURS.put(m.getName(), m);
    }
    for (Method m : PlainModel.class.getDeclaredMethods()) {
      if (OURS.containsKey(m.getName()) && java.lang.reflect.Modifier.isPublic(m.getModifiers())) PLAIN.put(m.getName(), m);
    }
    for (int run = first; run < first + runs; run++) {
      if (!new AgainstPlainModel(run).play()) {
        System.out.println("run " + run + " is not as the plain model has it");
        System.exit(1);
      }
    }
    for (String name : new TreeSet<>(KINDS_OF_ANSWERS.keySet())) {
      if (args.length > 0) System.out.println(name + " " + KINDS_OF_ANSWERS.get(name));
    }
    if (missing() > 0) System.exit(1);
    System.out.println(runs + " runs are as the plain model has them");
  }
}
