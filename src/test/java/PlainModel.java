import java.util.ArrayList;
import java.util.Arrays;
import java.util.Collections;
import java.util.HashMap;
import java.util.List;
import java.util.Map;

/** The document's words written down a second time, as plainly and slowly as can be, to compare with. */
public final class PlainModel {
  static final int UNKNOWN = -1, OUTSIDE = -2, STATE = -3, FULL = -4, SPENT = -5, NONE = -9;

  record Tie(int a, int b, boolean buys) { }
  record Said(boolean up, int kind, int held, boolean near) { }
  /** way: from the net that has it back to the home. */
  record Word(int site, int names, List<Integer> way) { }
  record Rest(int rounds, Word[] words) { }
  record Worth(int excess, long sum, int[] kinds) { }
  static final class Trial {
    List<Said> said;
    int[] seen = new int[10];
  }

  final List<Integer> askers = new ArrayList<>();
  final List<Integer> guesses = new ArrayList<>();
  final List<Tie> ties = new ArrayList<>();
  final List<Integer> homes = new ArrayList<>();
  final List<Integer> rooms = new ArrayList<>();
  final List<Said> said = new ArrayList<>();
  final Map<Integer, Integer> aims = new HashMap<>();
  final Map<List<Integer>, Integer> lates = new HashMap<>();
  final List<Trial> trials = new ArrayList<>();

  boolean noNet(int n) { return n < 0 || n >= askers.size(); }
  boolean noSite(int s) { return s < 0 || s >= said.size(); }

  public int net(int n) {
    if (n < 0 || n > 10000) return OUTSIDE;
    if (askers.size() == 10) return FULL;
    askers.add(n);
    guesses.add(1);
    return askers.size() - 1;
  }

  boolean buysThroughOthers(int from, int to, int depth) {
    if (from == to) return true;
    if (depth > 10) return false;
    for (Tie t : ties) if (t.buys && t.a == from && buysThroughOthers(t.b, to, depth + 1)) return true;
    return false;
  }

  public int tie(int a, int b, boolean buys) {
    if (noNet(a) || noNet(b)) return UNKNOWN;
    if (a == b || tied(a, b) != 0) return STATE;
    if (buys && buysThroughOthers(b, a, 0)) return STATE;
    if (ties.size() == 20) return FULL;
    ties.add(new Tie(a, b, buys));
    return ties.size();
  }

  public int tied(int a, int b) {
    if (noNet(a) || noNet(b)) return UNKNOWN;
    for (Tie t : ties) {
      if (t.a == a && t.b == b) return t.buys ? 3 : 2;
      if (t.a == b && t.b == a) return t.buys ? 1 : 2;
    }
    return 0;
  }

  public int askers(int net, int n) {
    if (noNet(net)) return UNKNOWN;
    if (n < 0 || n > 10000) return OUTSIDE;
    return askers.set(net, n);
  }

  public int guess(int net, int rules) {
    if (noNet(net)) return UNKNOWN;
    if (rules < 1 || rules > 15) return OUTSIDE;
    return guesses.set(net, rules);
  }

  public int site(int home, int room) {
    if (noNet(home)) return UNKNOWN;
    if (room < 0 || room > 100000) return OUTSIDE;
    if (said.size() == 4) return FULL;
    homes.add(home);
    rooms.add(room);
    said.add(new Said(true, 0, 0, false));
    return said.size() - 1;
  }

  public int room(int site, int n) {
    if (noSite(site)) return UNKNOWN;
    if (n < 0 || n > 100000) return OUTSIDE;
    return rooms.set(site, n);
  }

  public int up(int site, boolean up) {
    if (noSite(site)) return UNKNOWN;
    Said was = said.get(site);
    said.set(site, new Said(up, was.kind, was.held, was.near));
    return was.up ? 1 : 0;
  }

  static List<Said> withKind(List<Said> all, int site, int kind) {
    List<Said> other = new ArrayList<>(all);
    Said was = all.get(site);
    other.set(site, new Said(was.up, kind, was.held, was.near));
    return other;
  }

  static List<Said> fallen(List<Said> all, int site) {
    List<Said> other = new ArrayList<>(all);
    Said was = all.get(site);
    other.set(site, new Said(false, was.kind, was.held, was.near));
    return other;
  }

  public int kind(int site, int kind) {
    if (noSite(site)) return UNKNOWN;
    if (kind < 0 || kind > 4) return OUTSIDE;
    int was = said.get(site).kind;
    said.set(site, withKind(said, site, kind).get(site));
    return was;
  }

  public int held(int site, int set) {
    if (noSite(site)) return UNKNOWN;
    for (int bit = 0; bit < 32; bit++) if ((set >>> bit & 1) == 1 && noNet(bit)) return OUTSIDE;
    Said was = said.get(site);
    said.set(site, new Said(was.up, was.kind, set, was.near));
    return was.held;
  }

  public int near(int site, boolean near) {
    if (noSite(site)) return UNKNOWN;
    Said was = said.get(site);
    said.set(site, new Said(was.up, was.kind, was.held, near));
    return was.near ? 1 : 0;
  }

  public int late(int net, int site, int v) {
    if (noNet(net) || noSite(site)) return UNKNOWN;
    if (v < 0 || v > 999) return OUTSIDE;
    Integer was = lates.put(List.of(net, site), v);
    return was == null ? 0 : was;
  }

  // how words are passed on and chosen

  int payOf(int net, Word w) { return w.way.size() == 1 ? 1 : tied(net, w.way.get(1)); }

  List<Word> coming(int net, Word[] had, List<Said> all) {
    List<Word> come = new ArrayList<>();
    for (int s = 0; s < all.size(); s++) {
      Said word = all.get(s);
      if (homes.get(s) == net && word.up && word.kind != 4) come.add(new Word(s, 1 + word.kind, List.of(net)));
    }
    for (int other = 0; other < askers.size(); other++) {
      if (tied(net, other) == 0 || had[other] == null) continue;
      Word w = had[other];
      boolean ofSite = w.way.size() == 1;
      boolean ofBuyer = !ofSite && tied(other, w.way.get(1)) == 1;
      boolean toBuyer = tied(other, net) == 1;
      if (!(ofSite || ofBuyer || toBuyer)) continue;
      if (all.get(w.site).near && !ofSite) continue;
      if (w.way.contains(net)) continue;
      if ((all.get(w.site).held >> net & 1) == 1) continue;
      List<Integer> way = new ArrayList<>();
      way.add(net);
      way.addAll(w.way);
      come.add(new Word(w.site, w.names + 1, way));
    }
    return come;
  }

  static final int[][] THINGS = {{1, 2, 3}, {1, 2, 3}, {2, 1, 3}, {1, 3, 2}};

  int measure(int net, Word w, int thing, int rule) {
    if (thing == 1) return payOf(net, w);
    if (thing == 2) return w.names;
    if (w.way.size() == 1) return -100 + w.site;
    return rule == 1 ? -w.way.get(1) : w.way.get(1);
  }

  /** What is left behind so many things of a rule. */
  List<Word> leftBehind(int net, List<Word> come, int rule, int things) {
    List<Word> left = come;
    for (int i = 0; i < things; i++) {
      int least = Integer.MAX_VALUE;
      for (Word w : left) least = Math.min(least, measure(net, w, THINGS[rule][i], rule));
      List<Word> still = new ArrayList<>();
      for (Word w : left) if (measure(net, w, THINGS[rule][i], rule) == least) still.add(w);
      left = still;
    }
    return left;
  }

  Rest rest(List<Said> all, int[] rules) {
    int n = askers.size();
    Word[] had = new Word[n];
    for (int changing = 0; ; changing++) {
      Word[] then = new Word[n];
      for (int net = 0; net < n; net++) {
        List<Word> left = leftBehind(net, coming(net, had, all), rules[net], 3);
        if (left.size() > 1) throw new IllegalStateException("two words are left");
        then[net] = left.isEmpty() ? null : left.get(0);
      }
      if (Arrays.equals(had, then)) return new Rest(changing, had);
      if (changing == 40) return null;
      had = then;
    }
  }

  int[] leastRules() {
    int[] rules = new int[askers.size()];
    for (int net = 0; net < rules.length; net++) {
      while ((guesses.get(net) >> rules[net] & 1) == 0) rules[net]++;
    }
    return rules;
  }

  Rest restNow() { return rest(said, leastRules()); }

  static int siteAt(Rest rest, int net) { return rest.words[net] == null ? NONE : rest.words[net].site; }

  public int rounds() {
    Rest rest = restNow();
    return rest == null ? NONE : rest.rounds;
  }

  public int comes(int net) {
    if (noNet(net)) return UNKNOWN;
    Rest rest = restNow();
    return rest == null ? STATE : siteAt(rest, net);
  }

  public int names(int net) {
    if (noNet(net)) return UNKNOWN;
    Rest rest = restNow();
    if (rest == null) return STATE;
    return rest.words[net] == null ? 0 : rest.words[net].names;
  }

  public int way(int net, int i) {
    if (noNet(net)) return UNKNOWN;
    Rest rest = restNow();
    if (rest == null) return STATE;
    Word w = rest.words[net];
    return w == null || i < 0 || i >= w.way.size() ? NONE : w.way.get(i);
  }

  public int told(int net) {
    if (noNet(net)) return UNKNOWN;
    Rest rest = restNow();
    return rest == null ? STATE : coming(net, rest.words, said).size();
  }

  public int why(int net) {
    if (noNet(net)) return UNKNOWN;
    Rest rest = restNow();
    if (rest == null) return STATE;
    List<Word> come = coming(net, rest.words, said);
    if (come.isEmpty()) return NONE;
    int rule = leastRules()[net];
    int things = 0;
    while (leftBehind(net, come, rule, things).size() > 1) things++;
    return things == 0 ? 0 : THINGS[rule][things - 1];
  }

  int loadAt(Rest rest, int site) {
    int load = 0;
    for (int net = 0; net < askers.size(); net++) if (siteAt(rest, net) == site) load += askers.get(net);
    return load;
  }

  int excessAt(Rest rest) {
    int excess = 0;
    for (int s = 0; s < said.size(); s++) excess += Math.max(0, loadAt(rest, s) - rooms.get(s));
    return excess;
  }

  long sumAt(Rest rest) {
    long sum = 0;
    for (int net = 0; net < askers.size(); net++) {
      int site = siteAt(rest, net);
      long each = site == NONE ? 1000 : lates.getOrDefault(List.of(net, site), 0);
      sum += each * askers.get(net);
    }
    return sum;
  }

  public int load(int site) {
    if (noSite(site)) return UNKNOWN;
    Rest rest = restNow();
    return rest == null ? STATE : loadAt(rest, site);
  }

  public int excess() {
    Rest rest = restNow();
    return rest == null ? STATE : excessAt(rest);
  }

  public long sum() {
    Rest rest = restNow();
    return rest == null ? STATE : sumAt(rest);
  }

  public int without(int site) {
    if (noSite(site)) return UNKNOWN;
    if (!said.get(site).up) return STATE;
    Rest rest = rest(fallen(said, site), leastRules());
    return rest == null ? STATE : excessAt(rest);
  }

  public int moves(int site, int kind) {
    if (noSite(site)) return UNKNOWN;
    if (kind < 0 || kind > 4) return OUTSIDE;
    Rest one = restNow();
    Rest other = rest(withKind(said, site, kind), leastRules());
    if (one == null || other == null) return STATE;
    int moved = 0;
    for (int net = 0; net < askers.size(); net++) {
      if (siteAt(one, net) != siteAt(other, net)) moved += askers.get(net);
    }
    return moved;
  }

  // trials and cases

  public int trial() {
    if (trials.size() == 6) return FULL;
    Trial t = new Trial();
    t.said = new ArrayList<>(said);
    Arrays.fill(t.seen, 4);
    trials.add(t);
    return trials.size() - 1;
  }

  public int seen(int trial, int net, int site) {
    if (trial < 0 || trial >= trials.size() || noNet(net)) return UNKNOWN;
    if (site != NONE && site != 4 && noSite(site)) return UNKNOWN;
    int was = trials.get(trial).seen[net];
    trials.get(trial).seen[net] = site;
    return was;
  }

  int caseCount() {
    int all = 1;
    for (int g : guesses) all *= Integer.bitCount(g);
    return all;
  }

  void addCases(int[] rules, int net, List<int[]> all) {
    if (net == rules.length) {
      all.add(rules.clone());
      return;
    }
    for (int rule = 0; rule < 4; rule++) {
      if ((guesses.get(net) >> rule & 1) == 1) {
        rules[net] = rule;
        addCases(rules, net + 1, all);
      }
    }
  }

  boolean agrees(int[] rules, Trial t) {
    boolean any = false;
    for (int net = 0; net < 10; net++) any |= t.seen[net] != 4;
    if (!any) return true;
    Rest rest = rest(t.said, rules);
    if (rest == null) return false;
    for (int net = 0; net < askers.size(); net++) {
      if (t.seen[net] != 4 && t.seen[net] != siteAt(rest, net)) return false;
    }
    return true;
  }

  List<int[]> agreeing(int upTo) {
    List<int[]> all = new ArrayList<>();
    addCases(new int[askers.size()], 0, all);
    List<int[]> agreeing = new ArrayList<>();
    for (int[] rules : all) {
      boolean yes = true;
      for (int t = 0; t < upTo && yes; t++) yes = agrees(rules, trials.get(t));
      if (yes) agreeing.add(rules);
    }
    return agreeing;
  }

  List<int[]> agreeing() { return agreeing(trials.size()); }

  public int cases() { return caseCount() > 256 ? SPENT : caseCount(); }

  public int agree() { return caseCount() > 256 ? SPENT : agreeing().size(); }

  public int could(int net) {
    if (noNet(net)) return UNKNOWN;
    if (caseCount() > 256) return SPENT;
    int set = 0;
    for (int[] rules : agreeing()) {
      Rest rest = rest(said, rules);
      set |= rest == null || siteAt(rest, net) == NONE ? 16 : 1 << siteAt(rest, net);
    }
    return set;
  }

  public int rules(int net) {
    if (noNet(net)) return UNKNOWN;
    if (caseCount() > 256) return SPENT;
    int set = 0;
    for (int[] rules : agreeing()) set |= 1 << rules[net];
    return set;
  }

  public int learn() {
    if (caseCount() > 256) return SPENT;
    List<int[]> left = agreeing();
    if (left.isEmpty()) return STATE;
    for (int net = 0; net < askers.size(); net++) {
      int set = 0;
      for (int[] rules : left) set |= 1 << rules[net];
      guesses.set(net, set);
    }
    return caseCount();
  }

  public int quarrel() {
    if (caseCount() > 256) return SPENT;
    for (int t = 0; t < trials.size(); t++) if (agreeing(t + 1).isEmpty()) return t;
    return NONE;
  }

  public int next(boolean part) {
    if (caseCount() > 256) return SPENT;
    List<int[]> left = agreeing();
    if (left.size() < 2) return NONE;
    int answer = NONE;
    int least = Integer.MAX_VALUE;
    for (int s = 0; s < said.size(); s++) {
      for (int kind = 0; kind <= 4; kind++) {
        if (!said.get(s).up || said.get(s).kind == kind) continue;
        Map<List<Integer>, Integer> groups = new HashMap<>();
        for (int[] rules : left) {
          Rest rest = rest(withKind(said, s, kind), rules);
          List<Integer> outcome = new ArrayList<>();
          for (int net = 0; net < askers.size() && rest != null; net++) outcome.add(siteAt(rest, net));
          if (rest == null) outcome.add(12345);
          groups.merge(outcome, 1, Integer::sum);
        }
        int greatest = Collections.max(groups.values());
        if (greatest < least) {
          least = greatest;
          answer = part ? greatest : 10 * s + kind;
        }
      }
    }
    return answer;
  }

  // choices and steps

  Worth worth(List<Said> choice, boolean safe) {
    List<List<Said>> falls = new ArrayList<>();
    falls.add(choice);
    for (int s = 0; s < choice.size() && safe; s++) if (choice.get(s).up) falls.add(fallen(choice, s));
    int excess = 0;
    long sum = 0;
    for (List<Said> all : falls) {
      Rest rest = rest(all, leastRules());
      if (rest == null) return null;
      excess = Math.max(excess, excessAt(rest));
      sum = Math.max(sum, sumAt(rest));
    }
    int[] kinds = new int[choice.size()];
    for (int s = 0; s < kinds.length; s++) kinds[s] = choice.get(s).kind;
    return new Worth(excess, sum, kinds);
  }

  void addWorths(List<Said> choice, int site, boolean safe, List<Worth> all) {
    if (site == choice.size()) {
      Worth worth = worth(choice, safe);
      if (worth != null) all.add(worth);
    } else if (!choice.get(site).up) {
      addWorths(choice, site + 1, safe, all);
    } else {
      for (int kind = 0; kind <= 4; kind++) addWorths(withKind(choice, site, kind), site + 1, safe, all);
    }
  }

  Worth bestChoice(boolean safe) {
    List<Worth> all = new ArrayList<>();
    addWorths(said, 0, safe, all);
    all.sort((x, y) -> {
      if (x.excess != y.excess) return Integer.compare(x.excess, y.excess);
      if (x.sum != y.sum) return Long.compare(x.sum, y.sum);
      return Arrays.compare(x.kinds, y.kinds);
    });
    return all.isEmpty() ? null : all.get(0);
  }

  public int best(boolean safe) {
    Worth best = bestChoice(safe);
    return best == null ? NONE : best.excess;
  }

  public long bestSum(boolean safe) {
    Worth best = bestChoice(safe);
    return best == null ? NONE : best.sum;
  }

  public int bestKind(boolean safe, int site) {
    if (noSite(site)) return UNKNOWN;
    Worth best = bestChoice(safe);
    return best == null ? NONE : best.kinds[site];
  }

  int aimOf(int site) { return aims.getOrDefault(site, said.get(site).kind); }

  public int aim(int site, int kind) {
    if (noSite(site)) return UNKNOWN;
    if (kind < 0 || kind > 4) return OUTSIDE;
    int was = aimOf(site);
    aims.put(site, kind);
    return was;
  }

  List<Integer> changing() {
    List<Integer> sites = new ArrayList<>();
    for (int s = 0; s < said.size(); s++) if (aimOf(s) != said.get(s).kind) sites.add(s);
    return sites;
  }

  public int steps() { return changing().size(); }

  record Row(List<Integer> sites, int worst) { }

  /** Orders come by sites, so that of like ones the first is kept. */
  Row bestRow(List<Said> all, List<Integer> left, List<Integer> made, int worst) {
    if (left.isEmpty()) return new Row(made, worst);
    Row best = null;
    for (int site : left) {
      List<Said> then = withKind(all, site, aimOf(site));
      Rest rest = rest(then, leastRules());
      int excess = rest == null ? 1000000 : excessAt(rest);
      List<Integer> rest2 = new ArrayList<>(left);
      rest2.remove(Integer.valueOf(site));
      List<Integer> more = new ArrayList<>(made);
      more.add(site);
      Row row = bestRow(then, rest2, more, Math.max(worst, excess));
      if (best == null || row.worst < best.worst) best = row;
    }
    return best;
  }

  Row row() { return bestRow(said, changing(), List.of(), 0); }

  public int step(int i) {
    List<Integer> sites = row().sites;
    return i < 0 || i >= sites.size() ? NONE : sites.get(i);
  }

  public int stepWorst() { return row().worst; }

  public int go() {
    int site = step(0);
    if (site != NONE) kind(site, aimOf(site));
    return site;
  }

  public int count(int what) {
    int all = 0;
    switch (what) {
      case 0: return askers.size();
      case 1: return ties.size();
      case 2: return said.size();
      case 3: for (Said s : said) if (s.up) all++; return all;
      case 4: return trials.size();
      case 5: for (int n : askers) all += n; return all;
      case 6: for (int g : guesses) if (Integer.bitCount(g) == 1) all++; return all;
      default: return OUTSIDE;
    }
  }
}
