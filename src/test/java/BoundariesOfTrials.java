/** Terms, part 4, and promises 25 to 33: each sentence that names a boundary, one check or more. */
public final class BoundariesOfTrials {
  private static final int UNKNOWN = Bench.UNKNOWN, STATE = Bench.STATE, FULL = Bench.FULL, SPENT = Bench.SPENT, NONE = Bench.NONE;
  private static final int NOTHING = 4;

  private static void due(String what, long got, long want) { Bench.due(what, got, want); }

  // ---- 25: FULL: 6

  private static void trial() {
    NearCopies x = new NearCopies();
    for (int i = 0; i < 6; i++) due("25: its number, even without nets", x.trial(), i);
    due("25: one more than six", x.trial(), FULL);
    due("25: six are there", x.count(4), 6);
    Bench.still("25: FULL", Bench.CROWDED, NearCopies::trial, FULL);
  }

  // ---- 26: UNKNOWN: trial, net, site (that is neither NONE nor 4)

  private static void seenUnknown() {
    Bench.still("26: no trial yet", Bench.NEW, x -> x.seen(0, 0, NOTHING), UNKNOWN);
    Bench.still("26: no trial yet", Bench.RING, x -> x.seen(0, 0, 0), UNKNOWN);
    Bench.known("26: of one trial", Bench.LIVED, (x, trial) -> x.seen(trial, 0, 0), 1);
    Bench.known("26: of six trials", Bench.CROWDED, (x, trial) -> x.seen(trial, 0, 0), 6);
    Bench.known("26: of three nets", Bench.LIVED, (x, net) -> x.seen(0, net, 0), 3);
    Bench.known("26: of ten nets", Bench.CROWDED, (x, net) -> x.seen(5, net, 0), 10);
    Bench.known("26: of three nets, nothing", Bench.LIVED, (x, net) -> x.seen(0, net, NOTHING), 3);
    Bench.known("26: of three nets, to none", Bench.LIVED, (x, net) -> x.seen(0, net, NONE), 3);
    Bench.known("26: of two sites", Bench.LIVED, (x, site) -> x.seen(0, 0, site), 2);
    for (int site : new int[] {3, 5, 6, -2, -8, -10}) Bench.still("26: site " + site, Bench.LIVED, x -> x.seen(0, 0, site), UNKNOWN);
    for (int site : new int[] {5, -1, -8, -10}) Bench.still("26: site " + site, Bench.CROWDED, x -> x.seen(0, 0, site), UNKNOWN);
    NearCopies bare = Bench.nets(1);
    bare.trial();
    Bench.dueRow("26: without sites NONE and 4 are taken, 0 is not",
      new long[] {bare.seen(0, 0, 0), bare.seen(0, 0, NOTHING), bare.seen(0, 0, NONE), bare.seen(0, 0, NOTHING)}, UNKNOWN, 4, 4, NONE);
  }

  private static void seenTold() {
    NearCopies x = Bench.crowded();
    int[] told = {0, 1, 2, 3, NONE, NOTHING};
    for (int trial = 0; trial < 6; trial++) {
      for (int net = 0; net < 10; net++) due("26: nothing at first", x.seen(trial, net, told[(trial + net) % 6]), 4);
    }
    for (int trial = 0; trial < 6; trial++) {
      for (int net = 0; net < 10; net++) due("26: each by itself", x.seen(trial, net, NOTHING), told[(trial + net) % 6]);
    }
    due("26: nothing is seen any more", x.agree(), 2);
  }

  // ---- 4: TRIALS keep all WORDS, and which SITES are UP, as they were

  /** 1 buys from 0, 2 from 1; 3 is alone; the site at 0. */
  private static NearCopies row() {
    NearCopies x = Bench.nets(1, 1, 1, 1);
    x.tie(1, 0, true);
    x.tie(2, 1, true);
    x.site(0, 0);
    return x;
  }

  /** By each of these net 2 comes to none. */
  private static void cut(NearCopies x, int which, boolean yes) {
    switch (which) {
      case 0: x.kind(0, yes ? 4 : 0); break;
      case 1: x.held(0, yes ? 4 : 0); break;
      case 2: x.near(0, yes); break;
      default: x.up(0, !yes);
    }
  }

  private static void keptAsTheyWere() {
    for (int which = 0; which < 4; which++) {
      NearCopies x = row();
      x.trial();
      x.seen(0, 2, 0);
      cut(x, which, true);
      Bench.dueRow("4: as it was, not cut " + which, new long[] {x.agree(), x.comes(2), x.could(2)}, 1, NONE, 16);
      x.trial();
      x.seen(1, 2, NONE);
      cut(x, which, false);
      Bench.dueRow("4: as it was, cut " + which, new long[] {x.agree(), x.comes(2), x.could(2)}, 1, 0, 1);
      x.seen(1, 2, 0);
      Bench.dueRow("4: nobody came then", new long[] {x.agree(), x.quarrel(), x.could(2)}, 0, 1, 0);
    }
    NearCopies x = row();
    x.site(3, 0);
    x.tie(2, 3, true);
    x.trial();
    x.kind(0, 3);
    x.kind(1, 1);
    x.seen(0, 2, 1);
    Bench.dueRow("4: LONG as it was: two names ahead of three", new long[] {x.agree(), x.comes(2)}, 1, 1);
  }

  private static void comeLater() {
    NearCopies x = row();
    x.trial();
    x.site(2, 0);
    x.seen(0, 2, 0);
    Bench.dueRow("4: a site that came later was not there", new long[] {x.agree(), x.comes(2)}, 1, 1);
    due("26: it can be told", x.seen(0, 2, 1), 0);
    due("4: but nobody came to it", x.agree(), 0);
    x = row();
    x.trial();
    x.seen(0, 3, NONE);
    due("4: alone, to none", x.agree(), 1);
    x.tie(3, 2, true);
    due("4: TIES are as they are now", x.agree(), 0);
    x.seen(0, 3, 0);
    due("4: by the tie", x.agree(), 1);
    due("2: a net that came later", x.net(0), 4);
    x.tie(4, 3, true);
    due("26: of it, too", x.seen(0, 4, 0), 4);
    due("4: NETS are as they are now", x.agree(), 1);
    x.seen(0, 4, NONE);
    due("4: it comes", x.agree(), 0);
    x = Bench.nets(1);
    x.trial();
    x.site(0, 0);
    x.seen(0, 0, NONE);
    due("4: a trial without sites: to none", x.agree(), 1);
  }

  // ---- 4: A CASE AGREES, if in each TRIAL at which anything was SEEN it RESTS, and all COME as was SEEN

  private static void agrees() {
    NearCopies x = Bench.ring();
    x.trial();
    due("4: no rest, but nothing was seen", x.agree(), 1);
    for (int seen : new int[] {0, 1, NONE}) {
      x.seen(0, 2, seen);
      Bench.dueRow("4: seen, but no rest", new long[] {x.agree(), x.quarrel()}, 0, 0);
    }
    x.seen(0, 2, NOTHING);
    Bench.dueRow("26: nothing is seen any more", new long[] {x.agree(), x.quarrel()}, 1, NONE);
    x = row();
    x.trial();
    for (int net = 0; net < 3; net++) x.seen(0, net, 0);
    x.seen(0, 3, NONE);
    due("4: all come as was seen", x.agree(), 1);
    int[] right = {0, 0, 0, NONE};
    for (int net = 0; net < 4; net++) {
      x.seen(0, net, net == 3 ? 0 : NONE);
      due("4: all but net " + net, x.agree(), 0);
      x.seen(0, net, right[net]);
    }
    for (int trial = 1; trial < 6; trial++) {
      x.trial();
      x.seen(trial, 1, NONE);
      Bench.dueRow("4: in each trial", new long[] {x.agree(), x.quarrel()}, 0, trial);
      x.seen(trial, 1, 0);
      due("4: again", x.agree(), 1);
    }
    NearCopies longest = Bench.longRun();
    longest.trial();
    longest.seen(0, 1, 0);
    due("4: it rests at 40 rounds", longest.agree(), 1);
    longest.net(0);
    longest.tie(7, 1, true);
    due("4: at 41 it does not", longest.agree(), 0);
    longest.seen(0, 1, NOTHING);
    for (int net = 0; net < 8; net++) due("29: no rest: bit 4", longest.could(net), 16);
  }

  // ---- 27 to 33: SPENT: more than 256 CASES

  private static void spent() {
    Bench.still("27: one, without nets", Bench.NEW, NearCopies::cases, 1);
    Bench.still("27: 256", Bench.MOST_CASES, NearCopies::cases, 256);
    Bench.still("27: 288", Bench.SPENT_CASES, NearCopies::cases, SPENT);
    Bench.still("28: 256", Bench.MOST_CASES, NearCopies::agree, 256);
    Bench.still("28: 288", Bench.SPENT_CASES, NearCopies::agree, SPENT);
    for (int net = 0; net < 5; net++) {
      int asked = net;
      Bench.still("29: 256", Bench.MOST_CASES, x -> x.could(asked), net < 2 ? 1 : 16);
      Bench.still("29: 288", Bench.SPENT_CASES, x -> x.could(asked), SPENT);
      Bench.still("30: 256", Bench.MOST_CASES, x -> x.rules(asked), net < 4 ? 15 : 1);
      Bench.still("30: 288", Bench.SPENT_CASES, x -> x.rules(asked), SPENT);
    }
    Bench.still("31: 256: all are left", Bench.MOST_CASES, NearCopies::learn, 256);
    Bench.still("31: 288", Bench.SPENT_CASES, NearCopies::learn, SPENT);
    Bench.still("32: 256", Bench.MOST_CASES, NearCopies::quarrel, NONE);
    Bench.still("32: 288", Bench.SPENT_CASES, NearCopies::quarrel, SPENT);
    Bench.still("33: 256: nothing parts them, the first there is", Bench.MOST_CASES, x -> x.next(false), 1);
    Bench.still("33: 256: all alike", Bench.MOST_CASES, x -> x.next(true), 256);
    Bench.still("33: 288", Bench.SPENT_CASES, x -> x.next(false), SPENT);
    Bench.still("33: 288", Bench.SPENT_CASES, x -> x.next(true), SPENT);
    Bench.known("29: UNKNOWN ahead of SPENT", Bench.SPENT_CASES, NearCopies::could, 5);
    Bench.known("30: UNKNOWN ahead of SPENT", Bench.SPENT_CASES, NearCopies::rules, 5);
    Bench.known("29: of a new object", Bench.NEW, NearCopies::could, 0);
    Bench.known("30: of a new object", Bench.NEW, NearCopies::rules, 0);
    Bench.known("29: of ten", Bench.CROWDED, NearCopies::could, 10);
    Bench.known("30: of ten", Bench.CROWDED, NearCopies::rules, 10);
    NearCopies x = Bench.crowded();
    for (int net = 0; net < 10; net++) x.guess(net, 15);
    Bench.dueRow("27: the most that there can be", new long[] {x.cases(), x.agree(), x.learn(), x.next(true)}, SPENT, SPENT, SPENT, SPENT);
    due("31: SPENT: the guess is as it was", x.guess(9, 1), 15);
    x = Bench.withCases(288);
    x.guess(0, 7);
    due("27: 216 again", x.cases(), 216);
  }

  // ---- 29 to 32 with none, one, some that agree

  /** Net 0 hears 1 (site 0) and 2 (site 1), who both buy from it: by rules 0, 2, 3 it takes site 0, by rule 1 site 1. */
  private static NearCopies fork(int guess) {
    NearCopies x = Bench.nets(1, 0, 0);
    x.tie(1, 0, true);
    x.tie(2, 0, true);
    x.site(1, 0);
    x.site(2, 0);
    x.guess(0, guess);
    return x;
  }

  private static void someAgree() {
    for (int guess = 1; guess <= 15; guess++) {
      NearCopies x = fork(guess);
      int first = guess & 13;
      int second = guess & 2;
      due("29: of all cases", x.could(0), (first != 0 ? 1 : 0) | (second != 0 ? 2 : 0));
      x.trial();
      x.seen(0, 0, 0);
      Bench.dueRow("28 to 30: those by which it takes site 0", new long[] {x.agree(), x.rules(0), x.could(0), x.quarrel()},
        Integer.bitCount(first), first, first != 0 ? 1 : 0, first != 0 ? NONE : 0);
      due("30: of a net with one rule", x.rules(1), first != 0 ? 1 : 0);
      due("31", x.learn(), first != 0 ? Integer.bitCount(first) : STATE);
      due("31: the guess", x.guess(0, guess), first != 0 ? first : guess);
      x.seen(0, 0, 1);
      Bench.dueRow("28 to 30: those by which it takes site 1", new long[] {x.agree(), x.rules(0), x.could(0), x.quarrel()},
        Integer.bitCount(second), second, second, second != 0 ? NONE : 0);
      due("31", x.learn(), second != 0 ? 1 : STATE);
      due("31: the guess", x.guess(0, guess), second != 0 ? second : guess);
    }
  }

  private static void noneAgrees() {
    Bench.Recipe recipe = () -> {
      NearCopies x = fork(15);
      x.trial();
      x.trial();
      x.seen(1, 0, NONE);
      return x;
    };
    Bench.still("28: none", recipe, NearCopies::agree, 0);
    for (int net = 0; net < 3; net++) {
      int asked = net;
      Bench.still("29: none", recipe, x -> x.could(asked), 0);
      Bench.still("30: none", recipe, x -> x.rules(asked), 0);
    }
    Bench.still("31: STATE: none AGREES", recipe, NearCopies::learn, STATE);
    Bench.still("32: the first with which none agrees", recipe, NearCopies::quarrel, 1);
    Bench.still("33: fewer than two", recipe, x -> x.next(false), NONE);
    Bench.still("33: fewer than two", recipe, x -> x.next(true), NONE);
  }

  /** Net 4 comes to site 1 unless both 2 and 3 follow rule 3. */
  private static void learnTellsCases() {
    NearCopies x = Bench.nets(0, 0, 0, 0, 0);
    for (int home = 0; home < 2; home++) {
      x.tie(home, 2, true);
      x.tie(home, 3, true);
      x.site(home, 0);
    }
    x.tie(2, 4, true);
    x.tie(3, 4, true);
    x.kind(0, 1);
    x.guess(2, 9);
    x.guess(3, 9);
    x.trial();
    x.seen(0, 4, 1);
    due("28: three of four", x.agree(), 3);
    due("31: each rule is in one of them: four CASES there are then", x.learn(), 4);
    Bench.dueRow("31: guesses", new long[] {x.guess(2, 9), x.guess(3, 9), x.guess(4, 1)}, 9, 9, 1);
    x.seen(0, 4, 0);
    due("28: one of four", x.agree(), 1);
    due("31: one", x.learn(), 1);
    Bench.dueRow("31: guesses", new long[] {x.guess(2, 1), x.guess(3, 1)}, 8, 8);
    Bench.still("31: without nets", Bench.NEW, NearCopies::learn, 1);
    Bench.still("31: of ten nets", Bench.CROWDED, NearCopies::learn, 2);
  }

  private static void quarrels() {
    Bench.still("32: without trials", Bench.NEW, NearCopies::quarrel, NONE);
    NearCopies x = fork(3);
    for (int trial = 0; trial < 6; trial++) x.trial();
    due("32: nothing was seen", x.quarrel(), NONE);
    x.seen(5, 0, NONE);
    due("32: the last", x.quarrel(), 5);
    x.seen(4, 0, 0);
    x.seen(2, 0, 1);
    due("32: by itself 4 has a case, but none behind 2", x.quarrel(), 4);
    x.seen(0, 1, 1);
    due("32: the first of all", x.quarrel(), 0);
    x.seen(0, 1, NOTHING);
    x.seen(2, 0, NOTHING);
    due("32: then the last again", x.quarrel(), 5);
    x.seen(5, 0, NOTHING);
    due("32: then none", x.quarrel(), NONE);
  }

  // ---- 29: bit 4: none, or there is no REST

  private static void couldBe() {
    NearCopies x = row();
    Bench.dueRow("29: to none: bit 4", new long[] {x.could(0), x.could(3)}, 1, 16);
    x = Bench.ring();
    x.guess(1, 5);
    Bench.dueRow("29: one case rests, one does not", new long[] {x.could(0), x.could(1), x.could(2), x.could(3)}, 17, 17, 17, 18);
    x = Bench.nets(0, 0, 0, 0);
    for (int net = 0; net < 4; net++) x.site(net, 0);
    Bench.dueRow("29: a bit for each site", new long[] {x.could(0), x.could(1), x.could(2), x.could(3)}, 1, 2, 4, 8);
  }

  // ---- 33: THE NEXT TRIAL

  private static void nextDue(String what, NearCopies x, int siteAndKind, int alike) {
    Bench.dueRow("33: " + what, new long[] {x.next(false), x.next(true)}, siteAndKind, alike);
  }

  private static void nextNone() {
    nextDue("without nets", new NearCopies(), NONE, NONE);
    nextDue("one case", fork(1), NONE, NONE);
    nextDue("two cases", fork(3), 1, 2);
    NearCopies x = Bench.nets(0, 0);
    x.guess(0, 15);
    nextDue("no site", x, NONE, NONE);
    x = fork(15);
    x.up(0, false);
    x.up(1, false);
    nextDue("no site is up", x, NONE, NONE);
    x.up(1, true);
    nextDue("the second is up", x, 11, 4);
    x.kind(1, 4);
    nextDue("it is up, though silent", x, 10, 4);
    x = fork(15);
    x.trial();
    x.seen(0, 0, 1);
    nextDue("one of four agrees", x, NONE, NONE);
    x.seen(0, 0, 0);
    nextDue("three of four agree: rule 3 from 0 and 2", x, 1, 2);
  }

  private static void nextOfLikeOnes() {
    nextDue("kinds 1, 2, 3 of site 0 tell rule 3 from the others: the least", fork(15), 1, 3);
    NearCopies x = fork(3);
    nextDue("its own kind would part them, but is not asked", x, 1, 2);
    x.kind(0, 1);
    nextDue("site 0 at 0, or site 1 at 1: the least site", x, 0, 1);
    x.kind(0, 0);
    x.kind(1, 1);
    nextDue("site 0 at 1, or site 1 at 0: the least site", x, 1, 1);
    x.kind(0, 3);
    nextDue("site 0 at 1, or site 1 at 3", x, 1, 1);
    x.kind(1, 4);
    nextDue("only site 1 at 3 parts them, the last of its kinds", x, 13, 1);
    x.kind(1, 2);
    x.up(0, false);
    nextDue("a fallen one is not asked", x, 10, 2);
  }

  /** Net 0 goes to the one who buys, whatever its names; only if that one is silent its rule parts the two who swap. */
  private static void nextSilent() {
    int[][] homes = {{1, 2, 3, 4}, {2, 1, 3, 4}, {2, 3, 1, 4}, {2, 3, 4, 1}};
    for (int site = 0; site < 4; site++) {
      NearCopies x = Bench.nets(0, 0, 0, 0, 0);
      x.tie(1, 0, true);
      x.tie(2, 0, false);
      x.tie(3, 0, false);
      for (int home : homes[site]) x.site(home, 0);
      x.guess(0, 3);
      nextDue("SILENT, of site " + site, x, 10 * site + 4, 1);
      x.kind(site == 0 ? 1 : 0, 1);
      nextDue("nor then, if one of the two has more names", x, site == 0 ? 1 : 0, 2);
    }
  }

  /** By rule 2 of net 1 there is no rest, whichever of the two rules net 3 has. */
  private static void nextWithoutRest() {
    NearCopies x = Bench.ring();
    x.guess(3, 3);
    nextDue("both without rest are alike, too", x, 0, 2);
    x.guess(1, 5);
    nextDue("two with rest, two without", x, 3, 2);
    x.guess(3, 1);
    nextDue("one with rest, one without", x, 3, 1);
  }

  public static void main(String[] args) {
    trial();
    seenUnknown();
    seenTold();
    keptAsTheyWere();
    comeLater();
    agrees();
    spent();
    someAgree();
    noneAgrees();
    learnTellsCases();
    quarrels();
    couldBe();
    nextNone();
    nextOfLikeOnes();
    nextSilent();
    nextWithoutRest();
    Bench.end("boundaries of trials");
  }
}
