/** Terms, parts 2 and 3, and promises 14 to 24: each sentence that names a boundary, one check or more. */
public final class BoundariesOfRest {
  private static final int UNKNOWN = Bench.UNKNOWN, OUTSIDE = Bench.OUTSIDE, STATE = Bench.STATE, NONE = Bench.NONE;
  private static final int LOW = Bench.LOW, HIGH = Bench.HIGH;
  /** What another net is to a net, as tied() tells it. */
  private static final int BUYER = 1, SWAPPER = 2, SELLER = 3;

  private static void due(String what, long got, long want) { Bench.due(what, got, want); }

  /** So that other is to net what is told. */
  private static void join(NearCopies x, int net, int other, int what) {
    if (what == BUYER) x.tie(other, net, true);
    else x.tie(net, other, what == SELLER);
  }

  // ---- nothing there yet, nothing said

  private static void nothing() {
    Bench.still("14: rounds without nets", Bench.NEW, NearCopies::rounds, 0);
    Bench.still("15: comes", Bench.NEW, x -> x.comes(0), UNKNOWN);
    Bench.still("16: names", Bench.NEW, x -> x.names(0), UNKNOWN);
    Bench.still("17: way", Bench.NEW, x -> x.way(0, 0), UNKNOWN);
    Bench.still("18: told", Bench.NEW, x -> x.told(0), UNKNOWN);
    Bench.still("19: why", Bench.NEW, x -> x.why(0), UNKNOWN);
    Bench.still("20: load", Bench.NEW, x -> x.load(0), UNKNOWN);
    Bench.still("21: excess", Bench.NEW, NearCopies::excess, 0);
    Bench.still("22: sum", Bench.NEW, NearCopies::sum, 0);
    Bench.still("23: without", Bench.NEW, x -> x.without(0), UNKNOWN);
    Bench.still("24: moves", Bench.NEW, x -> x.moves(0, 0), UNKNOWN);
    Bench.Recipe bare = () -> Bench.nets(3, 0);
    Bench.Recipe silent = () -> oneSite(4, true);
    Bench.Recipe fallen = () -> oneSite(0, false);
    for (Bench.Recipe recipe : new Bench.Recipe[] {bare, silent, fallen}) {
      Bench.still("14: nothing is said: no round changes anything", recipe, NearCopies::rounds, 0);
      Bench.still("15: to none", recipe, x -> x.comes(0), NONE);
      Bench.still("16: it has none", recipe, x -> x.names(0), 0);
      Bench.still("17: it has none", recipe, x -> x.way(0, 0), NONE);
      Bench.still("18: none come", recipe, x -> x.told(0), 0);
      Bench.still("19: none came", recipe, x -> x.why(0), NONE);
      Bench.still("21: nobody comes", recipe, NearCopies::excess, 0);
      Bench.still("22: 3 ASKERS times 1000, 0 times 1000", recipe, NearCopies::sum, 3000);
    }
    Bench.still("20: load of a silent one", silent, x -> x.load(0), 0);
    Bench.still("20: load of a fallen one", fallen, x -> x.load(0), 0);
  }

  private static NearCopies oneSite(int kind, boolean up) {
    NearCopies x = Bench.nets(3, 0);
    x.tie(1, 0, true);
    x.site(0, 0);
    x.kind(0, kind);
    x.up(0, up);
    return x;
  }

  // ---- 2: words from a SITE, words from a TIE

  private static void fromSite() {
    for (int kind = 0; kind <= 3; kind++) {
      NearCopies x = oneSite(kind, true);
      due("2: 1 and LONG names", x.names(0), 1 + kind);
      due("2: one name more by a tie", x.names(1), 2 + kind);
      Bench.dueRow("2: by that net alone", new long[] {x.way(0, 0), x.way(0, 1)}, 0, NONE);
      Bench.dueRow("2: its nets and this one", new long[] {x.way(1, 0), x.way(1, 1), x.way(1, 2)}, 1, 0, NONE);
      due("2: not if this one is among them: it does not come back", x.told(0), 1);
      x.up(0, false);
      due("2: a fallen one says nothing", x.names(0), 0);
      x.up(0, true);
      due("2: up again, it says its kind", x.names(0), 1 + kind);
    }
  }

  /** A row of swaps and buys 0 to 3 with the site at 0, and a second way from 0 to 3. */
  private static void heldNets() {
    NearCopies x = Bench.nets(1, 1, 1, 1);
    x.tie(1, 0, true);
    x.tie(2, 1, true);
    x.tie(3, 2, true);
    x.site(0, 0);
    x.held(0, 1);
    Bench.dueRow("2: HELD binds no home", new long[] {x.comes(0), x.comes(1), x.comes(2), x.comes(3)}, 0, 0, 0, 0);
    x.held(0, 8);
    Bench.dueRow("2: the last is not told it", new long[] {x.comes(2), x.comes(3), x.told(3)}, 0, NONE, 0);
    x.held(0, 2);
    Bench.dueRow("2: nor those behind one that is not", new long[] {x.comes(0), x.comes(1), x.comes(2), x.comes(3)}, 0, NONE, NONE, NONE);
    x.tie(3, 0, true);
    Bench.dueRow("2: another way leads around it", new long[] {x.comes(3), x.comes(2), x.comes(1)}, 0, NONE, NONE);
    x.held(0, 15);
    Bench.dueRow("2: all in HELD: the home alone", new long[] {x.comes(0), x.comes(1), x.comes(2), x.comes(3)}, 0, NONE, NONE, NONE);
    x.site(0, 0);
    x.kind(1, 1);
    due("2: HELD is the word's own: another is passed on if it is chosen", x.comes(1), NONE);
    x.kind(0, 2);
    due("2: it is chosen", x.comes(1), 1);
  }

  // ---- 2: passing on, from each sort to each sort

  private static void passingOn() {
    for (int target = BUYER; target <= SELLER; target++) {
      for (int near = 0; near <= 1; near++) {
        NearCopies x = Bench.nets(0, 0);
        join(x, 0, 1, target);
        x.site(0, 0);
        x.near(0, near == 1);
        due("2: from a site at it to all, NEAR or not: " + target, x.comes(1), 0);
      }
      for (int source = BUYER; source <= SELLER; source++) {
        NearCopies x = Bench.nets(0, 0, 0);
        join(x, 0, 2, source);
        join(x, 0, 1, target);
        x.site(2, 0);
        due("2: the middle has it", x.comes(0), 0);
        due("2: passed on from " + source + " to " + target, x.comes(1), source == BUYER || target == BUYER ? 0 : NONE);
        x.near(0, true);
        Bench.dueRow("2: a NEAR one is passed on by its home alone", new long[] {x.comes(0), x.comes(1)}, 0, NONE);
      }
    }
  }

  // ---- 2: choosing

  /** Net 0 hears net 1 with some names and net 2 with others; what each is to it is told. */
  private static NearCopies twoOffers(int rule, int first, int firstKind, int second, int secondKind) {
    NearCopies x = Bench.nets(0, 0, 0);
    join(x, 0, 1, first);
    join(x, 0, 2, second);
    x.site(1, 0);
    x.site(2, 0);
    x.kind(0, firstKind);
    x.kind(1, secondKind);
    x.guess(0, 1 << rule);
    return x;
  }

  private static void choosesBy(String what, NearCopies x, int site, int why) {
    Bench.dueRow(what, new long[] {x.comes(0), x.why(0)}, site, why);
  }

  private static void pay() {
    int[][] better = {{BUYER, SWAPPER}, {BUYER, SELLER}, {SWAPPER, SELLER}};
    for (int[] two : better) {
      for (int rule = 0; rule < 4; rule++) {
        String what = "2: rule " + rule + ", " + two[0] + " ahead of " + two[1];
        choosesBy(what + ", with the most names", twoOffers(rule, two[1], 0, two[0], 3), rule == 2 ? 0 : 1, rule == 2 ? 2 : 1);
        choosesBy(what + ", with like names", twoOffers(rule, two[1], 0, two[0], 0), 1, 1);
        choosesBy(what + ", with fewer names", twoOffers(rule, two[1], 1, two[0], 0), 1, rule == 2 ? 2 : 1);
      }
    }
  }

  private static void namesAndFrom() {
    for (int sort = BUYER; sort <= SELLER; sort++) {
      for (int rule = 0; rule < 4; rule++) {
        String what = "2: rule " + rule + ", both are " + sort;
        choosesBy(what + ", like names: by number", twoOffers(rule, sort, 0, sort, 0), rule == 1 ? 1 : 0, 3);
        choosesBy(what + ", the second has one less", twoOffers(rule, sort, 1, sort, 0), rule == 3 ? 0 : 1, rule == 3 ? 3 : 2);
        choosesBy(what + ", the first has one less", twoOffers(rule, sort, 0, sort, 1), 0, rule == 3 ? 3 : 2);
      }
    }
  }

  /** Net 0 with a site (or two), and net 1, who buys from it, with a site. */
  private static NearCopies siteAndBuyer(int rule, int ownKind, int buyersKind) {
    NearCopies x = Bench.nets(0, 0);
    x.tie(1, 0, true);
    x.site(1, 0);
    x.site(0, 0);
    x.kind(0, buyersKind);
    x.kind(1, ownKind);
    x.guess(0, 1 << rule);
    return x;
  }

  private static void sitesAndNets() {
    for (int rule = 0; rule < 4; rule++) {
      String what = "2: rule " + rule;
      choosesBy(what + ": a site and a buyer pay alike, names part them", siteAndBuyer(rule, 2, 0), rule == 3 ? 1 : 0, rule == 3 ? 3 : 2);
      choosesBy(what + ": like names: SITES ahead of NETS", siteAndBuyer(rule, 1, 0), 1, 3);
      NearCopies x = Bench.nets(0);
      for (int site = 0; site < 4; site++) x.site(0, 0);
      x.guess(0, 1 << rule);
      choosesBy(what + ": of SITES the least number", x, 0, 3);
      x.up(0, false);
      choosesBy(what + ": then the next", x, 1, 3);
      x.kind(1, 4);
      x.up(2, false);
      choosesBy(what + ": one came alone", x, 3, 0);
      x.up(3, false);
      choosesBy(what + ": none came", x, NONE, NONE);
    }
    for (int rule = 0; rule < 4; rule++) {
      NearCopies x = Bench.nets(0, 0);
      x.tie(0, 1, true);
      x.site(1, 0);
      x.site(0, 0);
      x.kind(1, 3);
      x.guess(0, 1 << rule);
      choosesBy("2: rule " + rule + ": a site ahead of a seller, but by names", x, rule == 2 ? 0 : 1, rule == 2 ? 2 : 1);
    }
  }

  // ---- 14: ROUNDS, till it RESTS

  private static void roundsAlongRows() {
    for (int amount = 1; amount <= 10; amount++) {
      NearCopies up = new NearCopies();
      NearCopies down = new NearCopies();
      for (int net = 0; net < amount; net++) {
        up.net(0);
        down.net(0);
      }
      for (int net = 0; net + 1 < amount; net++) {
        up.tie(net, net + 1, true);
        down.tie(net + 1, net, true);
      }
      up.site(0, 0);
      down.site(amount - 1, 0);
      due("14: each round one net on, of what was chosen ahead of it", up.rounds(), amount);
      due("14: so from the last to the first", down.rounds(), amount);
    }
  }

  /** A round that changes the way alone counts: net 4 has three names by 1, then three by 2, as 1 has gone over to 3. */
  private static void otherNets() {
    NearCopies x = Bench.nets(0, 0, 0, 0, 0);
    x.tie(0, 1, false);
    x.tie(0, 2, false);
    x.tie(0, 3, true);
    x.tie(3, 1, true);
    x.tie(4, 1, true);
    x.tie(4, 2, true);
    x.site(0, 0);
    due("14: a word with other NETS is another one", x.rounds(), 4);
    Bench.dueRow("17: by 2", new long[] {x.way(4, 0), x.way(4, 1), x.way(4, 2), x.names(4), x.way(1, 1)}, 4, 2, 0, 3, 3);
  }

  private static void fortyRounds() {
    Bench.Recipe forty = Bench::longRun;
    Bench.Recipe more = Bench::longerRun;
    Bench.still("14: 40 rounds that change something, and it rests", forty, NearCopies::rounds, 40);
    Bench.still("14: one more would: there is no rest", more, NearCopies::rounds, NONE);
    long[] comes = {NONE, 0, 0, 0, 0, 0, 0};
    for (int net = 0; net < 7; net++) {
      int asked = net;
      Bench.still("15: at 40 rounds net " + net, forty, x -> x.comes(asked), comes[net]);
      Bench.still("15: at 41 there is no rest", more, x -> x.comes(asked), STATE);
    }
    Bench.still("20: at 40", forty, x -> x.load(0), 270);
    Bench.still("21: at 40", forty, NearCopies::excess, 170);
    Bench.still("22: at 40", forty, NearCopies::sum, 10000);
    Bench.still("21: at 41", more, NearCopies::excess, STATE);
    Bench.still("22: at 41", more, NearCopies::sum, STATE);
    Bench.still("24: at 41 now", more, x -> x.moves(1, 4), STATE);
    Bench.still("24: at 40, and its own kind", forty, x -> x.moves(1, 3), 0);
    NearCopies x = Bench.longRun();
    x.net(0);
    x.tie(7, 0, true);
    due("14: one who hears of it earlier adds none", x.rounds(), 40);
    x = Bench.longerRun();
    x.kind(1, 4);
    due("24: at 41 then", x.moves(1, 3), STATE);
    x.kind(1, 3);
    x.net(0);
    x.site(8, 0);
    due("23: at 41 then", x.without(2), STATE);
    due("23: with rest then", x.without(1) >= 0 ? 1 : 0, 1);
  }

  // ---- 15 to 20: UNKNOWN; STATE

  private static void refusals() {
    Bench.Recipe[] recipes = {Bench.LIVED, Bench.RING, Bench.CROWDED};
    int[] nets = {3, 4, 10};
    int[] sites = {2, 2, 4};
    for (int i = 0; i < 3; i++) {
      Bench.known("15: comes", recipes[i], NearCopies::comes, nets[i]);
      Bench.known("16: names", recipes[i], NearCopies::names, nets[i]);
      Bench.known("17: way", recipes[i], (x, net) -> x.way(net, 0), nets[i]);
      Bench.known("17: way, beyond its end", recipes[i], (x, net) -> x.way(net, -1), nets[i]);
      Bench.known("18: told", recipes[i], NearCopies::told, nets[i]);
      Bench.known("19: why", recipes[i], NearCopies::why, nets[i]);
      Bench.known("20: load", recipes[i], NearCopies::load, sites[i]);
      Bench.known("23: without", recipes[i], NearCopies::without, sites[i]);
      Bench.known("24: moves", recipes[i], (x, site) -> x.moves(site, 0), sites[i]);
      Bench.known("24: UNKNOWN ahead of OUTSIDE", recipes[i], (x, site) -> x.moves(site, 5), sites[i]);
      Bench.refusedBeyond("24: OUTSIDE, ahead of STATE too", recipes[i], (x, kind) -> x.moves(1, kind), 0, 4, OUTSIDE);
    }
    for (int net = 0; net < 4; net++) {
      int asked = net;
      Bench.still("15: no rest", Bench.RING, x -> x.comes(asked), STATE);
      Bench.still("16: no rest", Bench.RING, x -> x.names(asked), STATE);
      for (int i : new int[] {LOW, -1, 0, 1, 10, HIGH}) Bench.still("17: no rest", Bench.RING, x -> x.way(asked, i), STATE);
      Bench.still("18: no rest", Bench.RING, x -> x.told(asked), STATE);
      Bench.still("19: no rest", Bench.RING, x -> x.why(asked), STATE);
    }
    Bench.still("14: no rest", Bench.RING, NearCopies::rounds, NONE);
    Bench.still("20: no rest", Bench.RING, x -> x.load(0), STATE);
    Bench.still("21: no rest", Bench.RING, NearCopies::excess, STATE);
    Bench.still("22: no rest, told as a long", Bench.RING, NearCopies::sum, -3L);
    for (int kind = 0; kind <= 4; kind++) {
      int asked = kind;
      Bench.still("24: no rest now", Bench.RING, x -> x.moves(0, asked), STATE);
    }
  }

  // ---- 17: the i-th NET .. NONE

  private static void ways() {
    for (int amount = 1; amount <= 10; amount++) {
      NearCopies x = new NearCopies();
      for (int net = 0; net < amount; net++) x.net(0);
      for (int net = 0; net + 1 < amount; net++) x.tie(net, net + 1, true);
      x.site(0, 0);
      x.kind(0, 3);
      int last = amount - 1;
      due("16: four names, and one for each tie", x.names(last), 4 + last);
      for (int i = 0; i < amount; i++) due("17: from that net back to the home", x.way(last, i), last - i);
      for (int i : new int[] {LOW, -1, amount, amount + 1, 10, 11, 15, 16, 32, 64, HIGH}) {
        due("17: beyond its ends: NONE", x.way(last, i), NONE);
      }
    }
  }

  // ---- 18: how many WORDS come

  private static void toldByMany() {
    NearCopies x = new NearCopies();
    for (int net = 0; net < 10; net++) x.net(0);
    for (int net = 1; net < 10; net++) x.tie(net, 0, true);
    x.site(9, 0);
    for (int net = 1; net < 9; net++) x.tie(9, net, true);
    Bench.dueRow("18: nine ties tell it", new long[] {x.told(0), x.names(0), x.why(0), x.told(9), x.told(1)}, 9, 2, 2, 1, 2);
    x.site(0, 0);
    x.site(0, 0);
    x.site(0, 0);
    Bench.dueRow("18: and three sites", new long[] {x.told(0), x.comes(0), x.why(0)}, 12, 1, 3);
  }

  // ---- 20 to 22: THE LOAD, EXCESS, THE SUM

  private static void loads() {
    NearCopies x = Bench.nets(10000, 20, 0);
    x.tie(1, 0, false);
    x.site(0, 10020);
    x.site(2, 0);
    due("20: of all that come", x.load(0), 10020);
    due("20: one who comes with no askers", x.load(1), 0);
    due("21: just full", x.excess(), 0);
    x.room(0, 10021);
    due("21: one is free", x.excess(), 0);
    x.room(0, 10019);
    due("21: one is too many", x.excess(), 1);
    x.room(0, 0);
    due("21: no room", x.excess(), 10020);
    x.askers(2, 5);
    due("21: of all sites together", x.excess(), 10025);
    x.room(0, 100000);
    due("21: free room makes up for none", x.excess(), 5);
    x.late(0, 0, 999);
    x.late(1, 0, 1);
    x.late(2, 0, 500);
    due("22: of each net and the site to which it comes", x.sum(), 9990000 + 20);
    x.up(1, false);
    due("22: to none: 1000", x.sum(), 9990000 + 20 + 5000);
    due("21: nobody comes to the fallen one", x.excess(), 0);
    NearCopies all = new NearCopies();
    for (int net = 0; net < 10; net++) all.net(10000);
    due("22: the greatest of all", all.sum(), 100000000L);
    for (int net = 1; net < 10; net++) all.tie(0, net, false);
    all.site(0, 0);
    for (int net = 0; net < 10; net++) all.late(net, 0, 999);
    Bench.dueRow("20 to 22: the greatest that come", new long[] {all.load(0), all.excess(), all.sum()}, 100000, 100000, 99900000L);
    all.room(0, 100000);
    due("21: the greatest room holds them", all.excess(), 0);
  }

  // ---- 23: if a SITE were FALLEN. STATE: it is, or there is no REST then

  private static void without() {
    Bench.Recipe pair = () -> twoHomes(0, 0);
    Bench.still("23: all come to the other", pair, x -> x.without(0), 30 - 12);
    Bench.still("23: and turned", pair, x -> x.without(1), 30 - 11);
    Bench.still("23: a silent one: as it is", () -> twoHomes(0, 4), x -> x.without(1), 30 - 11);
    Bench.still("23: the only one that speaks: nobody comes", () -> twoHomes(0, 4), x -> x.without(0), 0);
    Bench.Recipe fallen = () -> {
      NearCopies x = twoHomes(0, 0);
      x.up(1, false);
      return x;
    };
    Bench.still("23: STATE: it is", fallen, x -> x.without(1), STATE);
    Bench.still("23: the other is not", fallen, x -> x.without(0), 0);
    Bench.still("23: no rest now, but then", Bench.RING, x -> x.without(0), 100 - 25);
    Bench.still("23: no rest now, but then", Bench.RING, x -> x.without(1), 100 - 15);
    Bench.Recipe kept = () -> {
      NearCopies x = Bench.ring();
      x.site(0, 1000);
      return x;
    };
    Bench.still("14: a third site gives rest", kept, x -> x.rounds() > 0 ? 1 : 0, 1);
    Bench.still("23: STATE: no rest then", kept, x -> x.without(2), STATE);
  }

  /** 10 and 20 askers, who swap, with a site each: rooms 11 and 12. */
  private static NearCopies twoHomes(int firstKind, int secondKind) {
    NearCopies x = Bench.nets(10, 20);
    x.tie(0, 1, false);
    x.site(0, 11);
    x.site(1, 12);
    x.kind(0, firstKind);
    x.kind(1, secondKind);
    return x;
  }

  // ---- 24: elsewhere, or to none, or from none to some. STATE: there is no REST now, or then

  private static void moves() {
    Bench.Recipe pair = () -> twoHomes(0, 0);
    for (int kind = 0; kind <= 4; kind++) {
      int asked = kind;
      Bench.still("24: kind " + kind + ": its home goes elsewhere if it is silent", pair, x -> x.moves(1, asked), kind == 4 ? 20 : 0);
      Bench.still("24: from none to some", () -> twoHomes(4, 4), x -> x.moves(0, asked), kind == 4 ? 0 : 30);
      Bench.still("24: to none", () -> twoHomes(asked, 4), x -> x.moves(0, 4), kind == 4 ? 0 : 30);
    }
    Bench.Recipe fallen = () -> {
      NearCopies x = twoHomes(0, 0);
      x.up(0, false);
      return x;
    };
    Bench.still("24: a fallen one moves nobody", fallen, x -> x.moves(0, 4), 0);
    Bench.Recipe resting = () -> {
      NearCopies x = Bench.ring();
      x.kind(0, 0);
      return x;
    };
    Bench.still("24: no rest then", resting, x -> x.moves(0, 2), STATE);
    Bench.still("24: its own kind: nobody", resting, x -> x.moves(0, 0), 0);
    Bench.still("24: rest then", resting, x -> x.moves(0, 4), 10 + 20 + 30);
    NearCopies x = Bench.nets(1, 2, 4);
    x.site(1, 0);
    x.site(2, 0);
    due("24: beside nets that come to none, or stay", x.moves(1, 4), 4);
    x.up(1, false);
    due("24: beside nets that come to none", x.moves(0, 4), 2);
    NearCopies all = new NearCopies();
    for (int net = 0; net < 10; net++) all.net(10000);
    for (int net = 1; net < 10; net++) all.tie(0, net, false);
    all.site(0, 0);
    due("24: the greatest", all.moves(0, 4), 100000);
    for (int net = 0; net < 9; net++) all.askers(net, 0);
    due("24: the last net alone has askers", all.moves(0, 4), 10000);
  }

  public static void main(String[] args) {
    nothing();
    fromSite();
    heldNets();
    passingOn();
    pay();
    namesAndFrom();
    sitesAndNets();
    roundsAlongRows();
    otherNets();
    fortyRounds();
    refusals();
    ways();
    toldByMany();
    loads();
    without();
    moves();
    Bench.end("boundaries of rest");
  }
}
