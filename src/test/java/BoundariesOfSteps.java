/** Terms, part 5, and promises 34 to 42: each sentence that names a boundary, one check or more. */
public final class BoundariesOfSteps {
  private static final int UNKNOWN = Bench.UNKNOWN, OUTSIDE = Bench.OUTSIDE, NONE = Bench.NONE;
  private static final int LOW = Bench.LOW, HIGH = Bench.HIGH;

  private static void due(String what, long got, long want) { Bench.due(what, got, want); }

  private static void choiceDue(String what, NearCopies x, boolean safe, long... excessSumKinds) {
    long[] got = new long[excessSumKinds.length];
    for (int site = 0; site + 2 < got.length; site++) {
      askOther(x, safe);
      got[site + 2] = x.bestKind(safe, site);
    }
    askOther(x, safe);
    got[1] = x.bestSum(safe);
    askOther(x, safe);
    got[0] = x.best(safe);
    Bench.dueRow("34 to 36: " + what, got, excessSumKinds);
  }

  /** No answer may live on what another call has found: the other choice, or what is now. */
  private static void askOther(NearCopies x, boolean safe) {
    x.bestSum(!safe);
    x.askers(0, x.askers(0, 0));
    x.excess();
  }

  // ---- 34 to 36 with nothing to choose

  private static void nothingToChoose() {
    for (boolean safe : new boolean[] {false, true}) {
      Bench.still("34: without nets", Bench.NEW, x -> x.best(safe), 0);
      Bench.still("35: without nets", Bench.NEW, x -> x.bestSum(safe), 0);
      Bench.known("36: without sites", Bench.NEW, (x, site) -> x.bestKind(safe, site), 0);
      Bench.known("36: of two", Bench.LIVED, (x, site) -> x.bestKind(safe, site), 2);
      Bench.known("36: of four", Bench.CROWDED, (x, site) -> x.bestKind(safe, site), 4);
      Bench.known("36: without rest now", Bench.RING, (x, site) -> x.bestKind(safe, site), 2);
      Bench.still("34: it changes nothing", Bench.LIVED, x -> x.best(safe) < 0 ? 1 : 0, 0);
      Bench.still("35: it changes nothing", Bench.LIVED, x -> x.bestSum(safe) < 0 ? 1 : 0, 0);
      choiceDue("nets without sites", Bench.nets(3, 4), safe, 0, 7000);
      NearCopies x = oneNet(10, 10);
      for (int site = 0; site < 2; site++) {
        x.kind(site, 3 + site);
        x.up(site, false);
      }
      choiceDue("no site is up: others keep theirs", x, safe, 0, 10000, 3, 4);
    }
  }

  /** One net of ten with two sites at it; from the first it is five late, from the second one. */
  private static NearCopies oneNet(int firstRoom, int secondRoom) {
    NearCopies x = Bench.nets(10);
    x.site(0, firstRoom);
    x.site(0, secondRoom);
    x.late(0, 0, 5);
    x.late(0, 1, 1);
    return x;
  }

  // ---- 5: the least EXCESS, of like ones the least SUM, of like ones the first by KINDS of SITES 0, 1, ..

  private static void bestChoice() {
    choiceDue("the least sum: 1 is nearer", oneNet(10, 10), false, 0, 10, 1, 0);
    choiceDue("one too many at 1: the least excess ahead of the sum", oneNet(10, 9), false, 0, 50, 0, 0);
    choiceDue("one too many at each: to none, the last of all choices", oneNet(9, 9), false, 0, 10000, 4, 4);
    for (boolean safe : new boolean[] {false, true}) {
      choiceDue("four sites, all too small: the last of all choices", fourAlone(), safe, 0, 83000, 4, 4, 4, 4);
    }
    NearCopies x = oneNet(10, 10);
    x.late(0, 1, 5);
    choiceDue("all alike: the first", x, false, 0, 50, 0, 0);
    x = oneNet(10, 10);
    x.kind(0, 2);
    x.kind(1, 3);
    due("21: asked first, as it is now", x.excess(), 0);
    due("35: all kinds are looked at, those below what is said now, too", x.bestSum(false), 10);
    x = oneNet(10, 10);
    x.kind(1, 2);
    x.up(1, false);
    choiceDue("the fallen one keeps its kind", x, false, 0, 50, 0, 2);
    x.up(1, true);
    x.up(0, false);
    x.kind(0, 3);
    choiceDue("also if it is the first", x, false, 0, 10, 3, 0);
  }

  /** 2 (rule 0) and 3 (rule 1) hear both: with kinds alike they part, else both go to the shorter one. */
  private static void firstByKinds() {
    NearCopies x = Bench.nets(0, 0, 1, 1);
    for (int home = 0; home < 2; home++) {
      x.tie(2, home, false);
      x.tie(3, home, false);
      x.site(home, 100);
    }
    x.guess(3, 2);
    x.late(2, 0, 5);
    x.late(3, 1, 5);
    choiceDue("0 and 1 is as good as 1 and 0: by site 0 first", x, false, 0, 5, 0, 1);
    x.late(2, 0, 6);
    choiceDue("1 and 0 is better", x, false, 0, 5, 1, 0);
    x.guess(3, 15);
    choiceDue("by the least of the guess: both go with 0 at first", x, false, 0, 5, 1, 0);
    x.late(2, 0, 5);
    choiceDue("all alike now", x, false, 0, 5, 0, 0);
  }

  // ---- 5: THE SAFE CHOICE: all as they are, and each SITE that is UP FALLEN by itself

  private static void safeChoice() {
    choiceDue("with 1 fallen it is the other's sum, whichever is said first", oneNet(10, 10), true, 0, 50, 0, 0);
    choiceDue("with 0 fallen one is too many at 1: it had best be silent", oneNet(10, 9), true, 0, 10000, 0, 4);
    choiceDue("and turned", oneNet(9, 10), true, 0, 10000, 4, 0);
    NearCopies x = oneNet(10, 10);
    x.up(1, false);
    choiceDue("the only one that is up falls", x, true, 0, 10000, 0, 0);
    x = oneNet(10, 10);
    x.site(0, 10);
    x.late(0, 2, 900);
    choiceDue("one at a time: never both of the nearer two", x, true, 0, 50, 0, 0, 0);
  }

  private static void greatestOfAll() {
    NearCopies x = Bench.nets(10, 1);
    x.tie(0, 1, false);
    x.site(0, 20);
    x.site(1, 0);
    x.late(1, 0, 900);
    // as they are 1 is too many at site 1; if it is silent, 11 have room at site 0, and with 0 fallen all go to none
    choiceDue("the excess of each fall ahead of the sum of each", x, true, 0, 11000, 0, 4);
    x = Bench.nets(1, 1);
    x.tie(0, 1, false);
    x.site(0, 2);
    x.site(1, 2);
    x.late(0, 0, 100);
    x.late(1, 1, 100);
    // each goes to its own: 200; with one fallen both go to the other: 100; if one is silent and the other falls: 2000
    choiceDue("all as they are is one of these", x, true, 0, 200, 0, 0);
    choiceDue("alone it is better to be silent", x, false, 0, 100, 0, 4);
  }

  private static void withoutRestIsNone() {
    NearCopies x = Bench.ring();
    for (int site = 0; site < 2; site++) x.room(site, 1000);
    x.late(0, 0, 999);
    x.late(0, 1, 1);
    choiceDue("0 goes to 1 only if 0 is silent; what does not rest is none", x, false, 0, 10, 4, 0);
    due("14: now there is no rest", x.rounds(), NONE);
    choiceDue("safe: 1 falls, and all go to 0 or to none", x, true, 0, 9990, 0, 0);
    x = Bench.ring();
    for (int site = 0; site < 2; site++) x.room(site, 1000);
    x.site(0, 1000);
    x.late(0, 0, 999);
    x.late(1, 1, 999);
    x.late(2, 1, 999);
    // with 2 fallen and 0 at kind 2 or 3 there is no rest; else 0 goes to 0 then, or 1 and 2 to 1: 9990 is the least
    choiceDue("all these have REST", x, true, 0, 9990, 0, 0, 0);
    choiceDue("as they are nobody is late", x, false, 0, 0, 0, 0, 0);
  }

  // ---- 37: UNKNOWN; OUTSIDE

  private static void aims() {
    Bench.takenWithin("37: aim", Bench.LIVED, (x, kind) -> x.aim(1, kind), 0, 4);
    Bench.takenWithin("37: aim, the first time", Bench.LIVED, (x, kind) -> x.aim(0, kind), 0, 4);
    Bench.known("37: aim", Bench.LIVED, (x, site) -> x.aim(site, 1), 2);
    Bench.known("37: aim of none", Bench.NEW, (x, site) -> x.aim(site, 1), 0);
    Bench.known("37: UNKNOWN ahead of OUTSIDE", Bench.LIVED, (x, site) -> x.aim(site, 5), 2);
    Bench.known("37: aim of four", Bench.CROWDED, (x, site) -> x.aim(site, -1), 4);
    Bench.still("37: its own kind, if none was told", Bench.LIVED, x -> x.aim(0, 1), 1);
    for (int kind = 0; kind <= 4; kind++) {
      NearCopies x = Bench.lived();
      x.kind(0, kind);
      due("37: its own kind of now", x.aim(0, 2), kind);
      x.kind(0, 4 - kind);
      due("37: what was told", x.aim(0, 0), 2);
      due("37: what was told", x.aim(0, 0), 0);
    }
  }

  // ---- 38 to 41: STEPS

  /** Four nets with a site each: one, five, five, two too many. */
  private static NearCopies fourAlone() {
    NearCopies x = Bench.nets(11, 25, 35, 12);
    int[] rooms = {10, 20, 30, 10};
    for (int net = 0; net < 4; net++) x.site(net, rooms[net]);
    return x;
  }

  private static void stepsDue(String what, NearCopies x, int worst, long... order) {
    due("38: " + what, x.steps(), order.length);
    for (int i = 0; i < order.length; i++) due("39: " + what + ": step " + i, x.step(i), order[i]);
    for (int i : new int[] {LOW, -1, order.length, 4, 5, HIGH}) due("39: " + what + ": no step " + i, x.step(i), NONE);
    due("40: " + what, x.stepWorst(), worst);
  }

  private static void noSteps() {
    stepsDue("without nets", new NearCopies(), 0);
    stepsDue("none was told", fourAlone(), 0);
    stepsDue("none, though there is no rest", Bench.ring(), 0);
    Bench.still("41: there is none", Bench.NEW, NearCopies::go, NONE);
    Bench.still("41: there is none", Bench.RING, NearCopies::go, NONE);
    NearCopies x = fourAlone();
    for (int site = 0; site < 4; site++) x.aim(site, 0);
    stepsDue("each is aimed at its own", x, 0);
    due("41: none", x.go(), NONE);
    due("21: the excess is not behind a step", x.excess(), 13);
  }

  private static void allSteps() {
    NearCopies x = fourAlone();
    for (int site = 0; site < 4; site++) {
      x.aim(site, 4);
      due("38: one more", x.steps(), site + 1);
    }
    stepsDue("the greatest first, then by sites", x, 13 - 5, 1, 0, 2, 3);
    due("41", x.go(), 1);
    due("10: its step is made", x.kind(1, 4), 4);
    // 8 are too many: behind 0: 7, behind 2: 3
    stepsDue("three are left", x, 3, 2, 0, 3);
    due("41", x.go(), 2);
    stepsDue("two are left", x, 1, 3, 0);
    due("41", x.go(), 3);
    stepsDue("one is left", x, 0, 0);
    due("41", x.go(), 0);
    stepsDue("all are made", x, 0);
    due("41: NONE", x.go(), NONE);
    due("37: it is still aimed at", x.aim(1, 4), 4);
    x.kind(1, 0);
    stepsDue("so it is a step again", x, 0, 1);
  }

  /** No answer may live on what another call has found. */
  private static void eachAskedFirst() {
    for (int call = 0; call < 4; call++) {
      NearCopies x = fourAlone();
      x.aim(3, 4);
      x.aim(2, 4);
      if (call == 0) due("41: asked first", x.go(), 2);
      if (call == 1) due("40: asked first", x.stepWorst(), 8);
      if (call == 2) due("39: asked first", x.step(1), 3);
      if (call == 3) due("38: asked first", x.steps(), 2);
      x.aim(0, 4);
      x.room(0, 0);
      // 23 are too many now, 18 if a step is made: behind 0 it is 11 less
      stepsDue("asked behind it", x, call == 0 ? 7 : 12, call == 0 ? new long[] {0, 3} : new long[] {0, 2, 3});
    }
  }

  private static void likeOrders() {
    NearCopies x = fourAlone();
    for (int site = 0; site < 4; site++) x.aim(site, 1);
    stepsDue("LONG alone changes nobody: all orders alike", x, 13, 0, 1, 2, 3);
    x.up(2, false);
    stepsDue("a fallen one's kind is to change, too", x, 8, 0, 1, 2, 3);
    due("41: of 0", x.go(), 0);
    x.aim(0, 1);
    x.aim(1, 0);
    x.aim(3, 0);
    stepsDue("the fallen one alone", x, 8, 2);
    due("41: its kind", x.go(), 2);
    due("10: is made", x.kind(2, 0), 1);
    due("9: it is fallen", x.up(2, false), 0);
  }

  private static void withoutRestBehindStep() {
    NearCopies x = Bench.ring();
    x.kind(0, 0);
    x.kind(1, 1);
    x.aim(0, 2);
    x.aim(1, 0);
    stepsDue("no rest behind the last, in any order: by sites", x, 1000000, 0, 1);
    x.kind(1, 0);
    x.aim(1, 4);
    // behind 0 there is no rest; behind 1 all 100 go to 0, which has room for 15, and so behind both
    stepsDue("the order that has rest", x, 85, 1, 0);
    x.aim(1, 1);
    x.kind(0, 2);
    x.kind(1, 0);
    x.aim(0, 0);
    // behind 0: 60 go to 0 and 40 to 1; behind both alike
    stepsDue("no rest now, but behind each", x, 45 + 15, 0, 1);
    NearCopies longest = Bench.longRun();
    longest.kind(1, 4);
    longest.aim(1, 3);
    stepsDue("rest at 40 rounds", longest, 170, 1);
    longest.net(0);
    longest.tie(7, 1, true);
    stepsDue("no rest at 41", longest, 1000000, 1);
    NearCopies all = new NearCopies();
    for (int net = 0; net < 10; net++) all.net(10000);
    for (int net = 1; net < 10; net++) all.tie(0, net, false);
    all.site(0, 0);
    all.aim(0, 1);
    stepsDue("the greatest with rest", all, 100000, 0);
  }

  // ---- 42: OUTSIDE

  private static void count() {
    Bench.Recipe[] recipes = {Bench.NEW, Bench.LIVED, Bench.CROWDED, Bench.SPENT_CASES};
    for (Bench.Recipe recipe : recipes) Bench.refusedBeyond("42: count", recipe, NearCopies::count, 0, 6, OUTSIDE);
    long[][] due = {{0, 0, 0, 0, 0, 0, 0}, {3, 2, 2, 2, 1, 24, 1}, {10, 20, 4, 4, 6, 4500, 9}, {5, 1, 1, 1, 0, 15, 0}};
    for (int i = 0; i < 4; i++) {
      for (int what = 0; what <= 6; what++) {
        int asked = what;
        Bench.still("42: count(" + what + ")", recipes[i], x -> x.count(asked), due[i][what]);
      }
    }
    NearCopies x = Bench.crowded();
    for (int site = 3; site >= 0; site--) {
      x.up(site, false);
      due("42: SITES that are UP", x.count(3), site);
    }
    for (int net = 0; net < 10; net++) x.askers(net, 10000);
    due("42: all ASKERS, the most", x.count(5), 100000);
    for (int rules = 1; rules <= 15; rules++) {
      x.guess(5, rules);
      due("42: NETS whose GUESS is one RULE", x.count(6), Integer.bitCount(rules) == 1 ? 10 : 9);
    }
  }

  public static void main(String[] args) {
    nothingToChoose();
    bestChoice();
    firstByKinds();
    safeChoice();
    greatestOfAll();
    withoutRestIsNone();
    aims();
    noSteps();
    allSteps();
    eachAskedFirst();
    likeOrders();
    withoutRestBehindStep();
    count();
    Bench.end("boundaries of choices and steps");
  }
}
