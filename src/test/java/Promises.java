/** For each promise of the document: ordinary inputs, the edges that it names, wrong inputs. Answers worked out by hand. */
public final class Promises {
  private static final int UNKNOWN = -1, OUTSIDE = -2, STATE = -3, FULL = -4, SPENT = -5, NONE = -9;
  private static final int[] WILD = {-1, 99, Integer.MIN_VALUE, Integer.MAX_VALUE};

  private static void due(String what, long got, long want) { Bench.due(what, got, want); }

  private static void dueRow(String what, long[] got, long... want) { Bench.dueRow(what, got, want); }

  /** Nets 1 and 2 buy from 0, 3 from 1 and 2; site 0 at 3. */
  private static NearCopies diamond() {
    NearCopies x = Bench.nets(1, 2, 4, 8);
    x.tie(1, 0, true);
    x.tie(2, 0, true);
    x.tie(3, 1, true);
    x.tie(3, 2, true);
    x.site(3, 100);
    return x;
  }

  private static void newObject() {
    NearCopies x = new NearCopies();
    for (int what = 0; what <= 6; what++) due("1: count of a new object", x.count(what), 0);
    due("1: rounds", x.rounds(), 0);
    due("1: excess", x.excess(), 0);
    due("1: sum", x.sum(), 0);
    due("1: cases", x.cases(), 1);
    due("1: agree", x.agree(), 1);
    due("1: quarrel", x.quarrel(), NONE);
    due("1: next", x.next(false), NONE);
    due("1: learn", x.learn(), 1);
    due("1: best", x.best(true), 0);
    due("1: bestSum", x.bestSum(false), 0);
    due("1: steps", x.steps(), 0);
    due("1: stepWorst", x.stepWorst(), 0);
    due("1: step", x.step(0), NONE);
    due("1: go", x.go(), NONE);
    due("1: constants", NearCopies.UNKNOWN * 100000 + NearCopies.OUTSIDE * 10000 + NearCopies.STATE * 1000
      + NearCopies.FULL * 100 + NearCopies.SPENT * 10 + NearCopies.NONE, -123459);
  }

  private static void net() {
    NearCopies x = new NearCopies();
    due("2: net(-1)", x.net(-1), OUTSIDE);
    due("2: net(10001)", x.net(10001), OUTSIDE);
    due("2: nothing came", x.count(0), 0);
    for (int i = 0; i < 10; i++) due("2: net", x.net(i == 0 ? 10000 : 0), i);
    due("2: OUTSIDE ahead of FULL", x.net(-1), OUTSIDE);
    due("2: FULL", x.net(0), FULL);
    due("2: ten", x.count(0), 10);
    due("2: its askers", x.askers(0, 1), 10000);
    due("2: its guess", x.guess(0, 2), 1);
  }

  private static void tie() {
    NearCopies x = Bench.nets(0, 0, 0, 0);
    for (int w : WILD) {
      due("3: UNKNOWN a", x.tie(w, 0, true), UNKNOWN);
      due("3: UNKNOWN b", x.tie(0, w, false), UNKNOWN);
    }
    due("3: UNKNOWN: just behind", x.tie(0, 4, true), UNKNOWN);
    due("3: both are one", x.tie(2, 2, false), STATE);
    due("3: first", x.tie(0, 1, true), 1);
    due("3: have one", x.tie(0, 1, false), STATE);
    due("3: have one, turned", x.tie(1, 0, true), STATE);
    due("3: second", x.tie(1, 2, true), 2);
    due("3: third", x.tie(2, 3, true), 3);
    due("3: 3 would buy from itself through 0, 1, 2", x.tie(3, 0, true), STATE);
    due("3: 2 from itself through 0, 1", x.tie(2, 0, true), STATE);
    due("3: refused ones change nothing", x.count(1), 3);
    due("3: the other way is fine", x.tie(0, 2, true), 4);
    due("3: a swap may close it", x.tie(3, 0, false), 5);
  }

  private static void tieFull() {
    NearCopies x = Bench.nets(0, 0, 0, 0, 0, 0, 0);
    int made = 0;
    for (int a = 0; a < 7; a++) {
      for (int b = a + 1; b < 7; b++) {
        if (b - a == 6) continue;
        made++;
        due("3: tie", x.tie(a, b, true), made);
      }
    }
    due("3: FULL", x.tie(0, 6, true), FULL);
    due("3: FULL", x.tie(6, 0, false), FULL);
    due("3: a net would buy from itself, ahead of FULL", x.tie(6, 0, true), STATE);
    due("3: they have one, ahead of FULL", x.tie(0, 1, true), STATE);
    due("3: UNKNOWN ahead of all", x.tie(7, 7, true), UNKNOWN);
    due("3: not made", x.tied(0, 6), 0);
  }

  private static void tied() {
    NearCopies x = Bench.nets(0, 0, 0);
    x.tie(0, 1, true);
    x.tie(2, 1, false);
    dueRow("4: tied", new long[] {x.tied(0, 1), x.tied(1, 0), x.tied(1, 2), x.tied(2, 1), x.tied(0, 2), x.tied(1, 1)},
      3, 1, 2, 2, 0, 0);
    due("4: UNKNOWN", x.tied(0, 3), UNKNOWN);
    due("4: UNKNOWN", x.tied(-1, 0), UNKNOWN);
  }

  private static void askersAndGuess() {
    NearCopies x = Bench.nets(7, 0);
    due("5: what it had", x.askers(0, 10000), 7);
    due("5: OUTSIDE", x.askers(0, 10001), OUTSIDE);
    due("5: OUTSIDE", x.askers(0, -1), OUTSIDE);
    due("5: UNKNOWN ahead of OUTSIDE", x.askers(2, -1), UNKNOWN);
    due("5: unchanged", x.askers(0, 0), 10000);
    due("6: what it was", x.guess(1, 15), 1);
    due("6: OUTSIDE", x.guess(1, 0), OUTSIDE);
    due("6: OUTSIDE", x.guess(1, 16), OUTSIDE);
    due("6: OUTSIDE", x.guess(1, -1), OUTSIDE);
    due("6: UNKNOWN ahead of OUTSIDE", x.guess(2, 16), UNKNOWN);
    due("6: unchanged", x.guess(1, 8), 15);
  }

  private static void site() {
    NearCopies x = Bench.nets(5);
    due("7: UNKNOWN ahead of OUTSIDE", x.site(1, -1), UNKNOWN);
    due("7: OUTSIDE", x.site(0, -1), OUTSIDE);
    due("7: OUTSIDE", x.site(0, 100001), OUTSIDE);
    due("7: none came", x.count(2), 0);
    for (int i = 0; i < 4; i++) due("7: its number", x.site(0, i), i);
    due("7: OUTSIDE ahead of FULL", x.site(0, -1), OUTSIDE);
    due("7: FULL", x.site(0, 0), FULL);
    dueRow("7: as it is at first", new long[] {x.room(3, 9), x.up(3, true), x.kind(3, 0), x.held(3, 0), x.near(3, false), x.late(0, 3, 0), x.aim(3, 0)},
      3, 1, 0, 0, 0, 0, 0);
  }

  private static void partsOfSites() {
    NearCopies x = Bench.nets(5, 6);
    x.site(0, 10);
    due("8: room", x.room(0, 100000), 10);
    due("8: OUTSIDE", x.room(0, 100001), OUTSIDE);
    due("8: OUTSIDE", x.room(0, -1), OUTSIDE);
    due("8: UNKNOWN", x.room(1, -1), UNKNOWN);
    due("8: unchanged", x.room(0, 0), 100000);
    dueRow("9: up", new long[] {x.up(0, false), x.up(0, false), x.up(0, true), x.up(0, true), x.up(1, true), x.up(-1, true)},
      1, 0, 0, 1, UNKNOWN, UNKNOWN);
    dueRow("10: kind", new long[] {x.kind(0, 4), x.kind(0, 5), x.kind(0, -1), x.kind(1, 5), x.kind(0, 2)},
      0, OUTSIDE, OUTSIDE, UNKNOWN, 4);
    dueRow("11: held", new long[] {x.held(0, 3), x.held(0, 4), x.held(0, -1), x.held(0, Integer.MIN_VALUE), x.held(1, 4), x.held(0, 0)},
      0, OUTSIDE, OUTSIDE, OUTSIDE, UNKNOWN, 3);
    dueRow("12: near", new long[] {x.near(0, true), x.near(0, true), x.near(0, false), x.near(1, false)}, 0, 1, 1, UNKNOWN);
    dueRow("13: late", new long[] {x.late(1, 0, 999), x.late(1, 0, 1000), x.late(1, 0, -1), x.late(2, 0, -1), x.late(1, 1, -1), x.late(0, 0, 1), x.late(1, 0, 0)},
      0, OUTSIDE, OUTSIDE, UNKNOWN, UNKNOWN, 0, 999);
  }

  private static void rounds() {
    NearCopies x = diamond();
    due("14: home, then 1 and 2, then 0", x.rounds(), 3);
    x.kind(0, 4);
    due("14: nothing is said", x.rounds(), 0);
    due("14: there is no rest", Bench.ring().rounds(), NONE);
    x = Bench.nets(1);
    x.site(0, 0);
    due("14: one round", x.rounds(), 1);
  }

  private static void passingOn() {
    // 0 swaps with 1, 1 with 2; 3 buys from 1; 1 buys from 4; 5 swaps with 4; site at 0
    NearCopies x = Bench.nets(1, 1, 1, 1, 1, 1);
    x.tie(0, 1, false);
    x.tie(1, 2, false);
    x.tie(3, 1, true);
    x.tie(1, 4, true);
    x.tie(5, 4, false);
    x.site(0, 0);
    dueRow("15: from one who swaps only to those who buy",
      new long[] {x.comes(0), x.comes(1), x.comes(2), x.comes(3), x.comes(4), x.comes(5)}, 0, 0, NONE, 0, NONE, NONE);
    x.site(3, 0);
    dueRow("15: from one who buys to all, and the payer is taken",
      new long[] {x.comes(0), x.comes(1), x.comes(2), x.comes(3), x.comes(4), x.comes(5)}, 0, 1, 1, 1, 1, 1);
    due("15: the home keeps its own", x.why(0), 1);
    x.held(1, 1 << 2 | 1 << 3);
    dueRow("11: 2 is not told it, 3 has it from its site itself",
      new long[] {x.comes(2), x.comes(3), x.told(2), x.told(3)}, NONE, 1, 0, 1);
    x.held(1, 0);
    x.near(1, true);
    dueRow("12: only the home passes it on",
      new long[] {x.comes(0), x.comes(1), x.comes(2), x.comes(3), x.comes(4), x.comes(5)}, 0, 1, NONE, 1, NONE, NONE);
    for (int w : WILD) {
      due("15: UNKNOWN", x.comes(w), UNKNOWN);
      due("16: UNKNOWN", x.names(w), UNKNOWN);
      due("17: UNKNOWN", x.way(w, 0), UNKNOWN);
      due("18: UNKNOWN", x.told(w), UNKNOWN);
      due("19: UNKNOWN", x.why(w), UNKNOWN);
    }
  }

  private static void namesAndWay() {
    NearCopies x = diamond();
    dueRow("16: names", new long[] {x.names(3), x.names(1), x.names(0)}, 1, 2, 3);
    x.kind(0, 3);
    dueRow("16: three names more", new long[] {x.names(3), x.names(1), x.names(0)}, 4, 5, 6);
    dueRow("17: way", new long[] {x.way(0, 0), x.way(0, 1), x.way(0, 2), x.way(0, 3), x.way(0, -1), x.way(0, 10), x.way(0, 16),
      x.way(0, Integer.MIN_VALUE), x.way(0, Integer.MAX_VALUE)}, 0, 1, 3, NONE, NONE, NONE, NONE, NONE, NONE);
    x.up(0, false);
    due("16: it has none", x.names(3), 0);
    due("17: it has none", x.way(3, 0), NONE);
    due("15: it has none", x.comes(3), NONE);
    // ten nets in a row: the longest way that there is
    x = Bench.nets(0, 0, 0, 0, 0, 0, 0, 0, 0, 0);
    for (int i = 0; i < 9; i++) x.tie(i, i + 1, true);
    x.site(0, 0);
    x.kind(0, 3);
    due("16: thirteen names", x.names(9), 13);
    for (int i = 0; i < 10; i++) due("17: the whole row", x.way(9, i), 9 - i);
    due("14: ten rounds", x.rounds(), 10);
  }

  private static void whyAndTold() {
    NearCopies x = diamond();
    dueRow("18: told", new long[] {x.told(0), x.told(1), x.told(2), x.told(3)}, 2, 1, 2, 1);
    dueRow("19: why", new long[] {x.why(0), x.why(1), x.why(3)}, 3, 0, 0);
    due("15: FROM: the least", x.way(0, 1), 1);
    x.guess(0, 2);
    due("15: rule 1: the greatest", x.way(0, 1), 2);
    due("19: rule 1", x.why(0), 3);
    x.kind(0, 4);
    due("18: none come", x.told(0), 0);
    due("19: none", x.why(0), NONE);
    // net 0: its site with four names; 1 swaps with it, 2 buys from it, 3 sells to it, each with a site
    x = Bench.nets(0, 0, 0, 0);
    x.tie(0, 1, false);
    x.tie(2, 0, true);
    x.tie(0, 3, true);
    for (int net = 0; net < 4; net++) x.site(net, 0);
    x.kind(0, 3);
    dueRow("15: rule 0: payers, then names", new long[] {x.comes(0), x.why(0), x.told(0)}, 2, 2, 4);
    x.guess(0, 8);
    dueRow("15: rule 3: payers, then its own site", new long[] {x.comes(0), x.why(0)}, 0, 3);
    x.guess(0, 4);
    dueRow("15: rule 2: names, then payers", new long[] {x.comes(0), x.why(0)}, 2, 1);
    x.kind(2, 1);
    dueRow("15: rule 2: swap ahead of seller", new long[] {x.comes(0), x.why(0)}, 1, 1);
    x.kind(1, 2);
    dueRow("15: rule 2: fewest names", new long[] {x.comes(0), x.why(0)}, 3, 2);
    x.guess(0, 2);
    x.up(0, false);
    dueRow("15: rule 1: pay", new long[] {x.comes(0), x.why(0)}, 2, 1);
    x.up(2, false);
    dueRow("15: swap ahead of seller", new long[] {x.comes(0), x.why(0)}, 1, 1);
    x.up(1, false);
    dueRow("15: one came alone", new long[] {x.comes(0), x.why(0)}, 3, 0);
  }

  private static void sitesAtOneNet() {
    for (int rule = 0; rule < 4; rule++) {
      NearCopies x = Bench.nets(3);
      x.guess(0, 1 << rule);
      x.site(0, 0);
      x.site(0, 0);
      due("15: the least site by each rule", x.comes(0), 0);
      due("19: by FROM", x.why(0), 3);
      x.kind(0, 1);
      due("15: rule 3 looks at names last", x.comes(0), rule == 3 ? 0 : 1);
      due("19: by names", x.why(0), rule == 3 ? 3 : 2);
    }
  }

  private static void withoutRest() {
    NearCopies x = Bench.ring();
    dueRow("15 to 22: STATE", new long[] {x.comes(0), x.names(0), x.way(0, -1), x.told(0), x.why(0), x.load(0), x.excess(), x.sum()},
      STATE, STATE, STATE, STATE, STATE, STATE, STATE, STATE);
    due("15: UNKNOWN ahead of STATE", x.comes(4), UNKNOWN);
    due("20: UNKNOWN ahead of STATE", x.load(2), UNKNOWN);
    due("23: with site 0 fallen all (100) come to 1", x.without(0), 75);
    due("23: with site 1 fallen all come to 0", x.without(1), 85);
    due("24: STATE now", x.moves(0, 4), STATE);
    due("24: OUTSIDE ahead of STATE", x.moves(0, 5), OUTSIDE);
    x.kind(0, 0);
    // 2's word has the fewest names at net 1, too
    dueRow("15: rest", new long[] {x.comes(0), x.comes(1), x.comes(2), x.comes(3)}, 0, 0, 0, 1);
    due("24: STATE then", x.moves(0, 2), STATE);
    due("24: it changes nothing", x.kind(0, 0), 0);
    x.site(0, 1000);
    x.kind(0, 2);
    due("23: site 2 gives rest, without it there is none", x.without(2), STATE);
  }

  private static void loads() {
    NearCopies x = diamond();
    x.site(2, 5);
    x.late(0, 0, 10);
    x.late(1, 0, 100);
    x.late(2, 1, 999);
    // 0 has 2's own word (two names) ahead of 1's (three)
    dueRow("15", new long[] {x.comes(0), x.comes(1), x.comes(2), x.comes(3)}, 1, 0, 1, 0);
    dueRow("20: load", new long[] {x.load(0), x.load(1), x.load(2), x.load(-1)}, 10, 5, UNKNOWN, UNKNOWN);
    due("21: excess: just full", x.excess(), 0);
    x.room(1, 3);
    x.room(0, 9);
    due("21: excess of both", x.excess(), 3);
    due("22: sum", x.sum(), 2 * 100 + 4 * 999);
    due("23: without 0 all have 1's word, from 2 or its buyers and sellers", x.without(0), 15 - 3);
    due("23: without 1", x.without(1), 15 - 9);
    due("23: UNKNOWN", x.without(2), UNKNOWN);
    x.up(0, false);
    due("23: it is fallen", x.without(0), STATE);
    due("22: to none and to some", x.sum(), 4 * 999);
    x.up(1, false);
    due("22: to none", x.sum(), 15000);
    due("21: no load", x.excess(), 0);
    x = Bench.nets(10000, 10000, 10000, 10000, 10000, 10000, 10000, 10000, 10000, 10000);
    due("22: the greatest", x.sum(), 100000000);
    x.site(0, 0);
    for (int i = 1; i < 10; i++) x.tie(0, i, false);
    due("21: the greatest", x.excess(), 100000);
  }

  private static void moves() {
    NearCopies x = diamond();
    x.site(2, 5);
    due("24: silent: 0 and 2 go to 0", x.moves(1, 4), 1 + 4);
    due("24: longer: 0 has it with as many names as 1's, 1 is less", x.moves(1, 1), 1);
    due("24: its own kind", x.moves(1, 0), 0);
    due("24: UNKNOWN", x.moves(2, 5), UNKNOWN);
    due("24: OUTSIDE", x.moves(1, -1), OUTSIDE);
    due("24: it changes nothing", x.comes(0), 1);
    x.up(0, false);
    due("24: a fallen one moves none", x.moves(0, 4), 0);
    x.up(1, false);
    x.up(0, true);
    x.kind(0, 4);
    due("24: from none to some", x.moves(0, 1), 15);
  }

  private static void trials() {
    NearCopies x = Bench.nets(1, 1, 1);
    x.tie(1, 0, true);
    x.site(1, 0);
    due("26: no trial", x.seen(0, 0, 0), UNKNOWN);
    due("25: first", x.trial(), 0);
    for (int i = 1; i < 6; i++) due("25: number", x.trial(), i);
    due("25: FULL", x.trial(), FULL);
    due("25: six", x.count(4), 6);
    dueRow("26: UNKNOWN", new long[] {x.seen(-1, 0, 0), x.seen(6, 0, 0), x.seen(0, -1, 0), x.seen(0, 3, 0), x.seen(0, 0, 1),
      x.seen(0, 0, 5), x.seen(0, 0, -1), x.seen(0, 0, -8), x.seen(6, 0, 4)}, -1, -1, -1, -1, -1, -1, -1, -1, -1);
    dueRow("26: what was seen", new long[] {x.seen(0, 0, 0), x.seen(0, 0, NONE), x.seen(0, 0, 4), x.seen(0, 0, 4)}, 4, 0, NONE, 4);
    x.seen(0, 0, 0);
    due("28: as was seen", x.agree(), 1);
    x.seen(0, 2, NONE);
    due("28: none for none", x.agree(), 1);
    x.seen(0, 0, NONE);
    due("28: not as was seen", x.agree(), 0);
    x.seen(0, 0, 0);
    x.kind(0, 4);
    x.up(0, false);
    x.held(0, 1);
    x.near(0, true);
    due("25: words and falls are kept as they were", x.agree(), 1);
    x.site(0, 0);
    due("25: a site that came later was not there", x.agree(), 1);
    x.seen(1, 0, 1);
    due("25: nor can it have been seen", x.agree(), 0);
    x.seen(1, 0, 4);
    x.tie(2, 1, false);
    due("25: ties are as they are now: 2 comes too", x.agree(), 0);
    due("32: by trial 0", x.quarrel(), 0);
    x.seen(0, 2, 0);
    due("28: so it is seen", x.agree(), 1);
  }

  private static void casesCounted() {
    NearCopies x = Bench.nets(0, 0, 0, 0, 0);
    due("27: one", x.cases(), 1);
    for (int net = 0; net < 4; net++) x.guess(net, 15);
    due("27: 256", x.cases(), 256);
    due("28: all agree", x.agree(), 256);
    due("33: no site is up", x.next(false), NONE);
    x.guess(4, 3);
    dueRow("27 to 33: SPENT", new long[] {x.cases(), x.agree(), x.could(0), x.rules(0), x.learn(), x.quarrel(), x.next(true)},
      SPENT, SPENT, SPENT, SPENT, SPENT, SPENT, SPENT);
    dueRow("29, 30: UNKNOWN ahead of SPENT", new long[] {x.could(5), x.rules(-1)}, UNKNOWN, UNKNOWN);
    due("31: refused, it changes nothing", x.guess(4, 8), 3);
    due("27: again", x.cases(), 256);
  }

  /** Net 0 takes site 0 (by 1) by rules 0 and 3, site 1 (by 2) by rule 1; rule 2 is like 0 here. */
  private static NearCopies fork() {
    NearCopies x = Bench.nets(1, 0, 0);
    x.tie(1, 0, true);
    x.tie(2, 0, true);
    x.site(1, 0);
    x.site(2, 0);
    x.guess(0, 15);
    return x;
  }

  private static void casesCut() {
    NearCopies x = fork();
    due("29: both could be", x.could(0), 3);
    due("29: one alone", x.could(1), 1);
    due("29: UNKNOWN", x.could(3), UNKNOWN);
    due("33: 0 at kind 1: only rule 3 comes to it", x.next(false), 1);
    due("33: three are alike", x.next(true), 3);
    x.trial();
    x.seen(0, 0, 0);
    due("28: rules 0, 2, 3", x.agree(), 3);
    due("30", x.rules(0), 13);
    due("30: UNKNOWN", x.rules(3), UNKNOWN);
    due("30: the others have one", x.rules(1), 1);
    due("33: rule 3 from the others", x.next(false), 1);
    due("33: two alike", x.next(true), 2);
    x.kind(0, 1);
    due("29: with the words of now", x.could(0), 3);
    x.trial();
    x.seen(1, 0, 0);
    due("30: rule 3 is left", x.rules(0), 8);
    due("33: fewer than two", x.next(true), NONE);
    x.seen(1, 0, 1);
    due("30: rules 0 and 2 are left", x.rules(0), 5);
    due("31: two cases", x.learn(), 2);
    due("31: the guess", x.guess(0, 15), 5);
    x.seen(1, 0, NONE);
    dueRow("28 to 33: none agrees", new long[] {x.agree(), x.could(0), x.rules(0), x.learn(), x.quarrel(), x.next(false)},
      0, 0, 0, STATE, 1, NONE);
    due("31: refused, it changes nothing", x.guess(0, 15), 15);
    x.seen(0, 1, 1);
    due("32: the first", x.quarrel(), 0);
    x.seen(0, 1, 4);
    x.seen(1, 0, 4);
    due("32: none", x.quarrel(), NONE);
  }

  private static void quarrelBehindOthers() {
    NearCopies x = fork();
    x.trial();
    x.trial();
    x.trial();
    x.seen(1, 0, 1);
    due("32: trial 1 leaves rule 1", x.quarrel(), NONE);
    x.seen(2, 0, 0);
    due("32: each has its cases, but 2 none behind 1", x.quarrel(), 2);
    due("28", x.agree(), 0);
  }

  private static void casesWithoutRest() {
    NearCopies x = Bench.ring();
    x.guess(1, 5);
    due("29: rule 0 rests, rule 2 does not", x.could(0), 1 | 16);
    due("29: so for each net", x.could(3), 2 | 16);
    // kinds 0 and 1 of site 0: its word has no more names at net 1 than the other, both rest alike; 3: a ring by rule 2
    due("33: having no rest parts them", x.next(true), 1);
    due("33: kind 3 of site 0", x.next(false), 3);
    x.trial();
    due("28: nothing seen: both agree", x.agree(), 2);
    x.seen(0, 2, 0);
    due("28: without rest it does not agree", x.agree(), 1);
    due("30", x.rules(1), 1);
    x.guess(1, 4);
    due("32: no rest, no agreement", x.quarrel(), 0);
    x.up(0, false);
    x.up(1, false);
    x.seen(0, 2, 4);
    x.guess(1, 5);
    due("29: to none", x.could(0), 16);
    due("33: no site is up", x.next(false), NONE);
  }

  private static void choices() {
    // 0 - 1 - 2 - 3 in a row of swaps; sites at 1 and 2
    NearCopies x = Bench.nets(10, 20, 30, 40);
    x.tie(0, 1, false);
    x.tie(1, 2, false);
    x.tie(2, 3, false);
    x.site(1, 50);
    x.site(2, 50);
    // 0, 1 to site 0 (30), 2, 3 to site 1 (70)
    due("21", x.excess(), 20);
    for (int net = 0; net < 4; net++) {
      x.late(net, 0, 10 + net);
      x.late(net, 1, 20 - net);
    }
    // site 1 silent: 0, 1, 2 to site 0 (60, excess 10), 3 to none: that is less than 20
    // site 0 silent: 1, 2, 3 to site 1 (90, excess 40); both silent: excess 0
    due("34: both silent", x.best(false), 0);
    due("35", x.bestSum(false), 100000);
    due("36", x.bestKind(false, 0) * 10 + x.bestKind(false, 1), 44);
    x.room(1, 70);
    due("34: as they are", x.best(false), 0);
    due("35: as they are", x.bestSum(false), 10 * 10 + 20 * 11 + 30 * 18 + 40 * 17);
    due("36: the first by kinds", x.bestKind(false, 0) * 10 + x.bestKind(false, 1), 0);
    // safe: with one fallen the other has 60 of 50 or 90 of 70; both silent has none too many
    due("34: safe", x.best(true), 0);
    due("35: safe", x.bestSum(true), 100000);
    due("36: safe", x.bestKind(true, 0) * 10 + x.bestKind(true, 1), 44);
    x.room(0, 60);
    x.room(1, 90);
    due("34: safe with more room", x.best(true), 0);
    // 0 fallen: 0 to none; 1 fallen: 3 to none, the greatest sum
    due("35: the greatest of three", x.bestSum(true), 40 * 1000 + 10 * 10 + 20 * 11 + 30 * 12);
    due("36: first by kinds", x.bestKind(true, 0) * 10 + x.bestKind(true, 1), 0);
    x.kind(1, 3);
    x.up(1, false);
    due("36: a fallen one keeps its kind", x.bestKind(false, 1), 3);
    due("34: one up", x.best(false), 0);
    due("35: one up", x.bestSum(false), 40 * 1000 + 10 * 10 + 20 * 11 + 30 * 12);
    due("35: one up, and falls", x.bestSum(true), 100000);
    due("36: all alike: the first", x.bestKind(true, 0), 0);
    due("36: UNKNOWN", x.bestKind(true, 2), UNKNOWN);
    due("36: UNKNOWN", x.bestKind(false, -1), UNKNOWN);
    due("10: nothing was changed by it", x.kind(0, 0), 0);
  }

  private static void choicesWithoutRest() {
    NearCopies x = Bench.ring();
    x.room(0, 1000);
    x.room(1, 1000);
    x.late(0, 0, 999);
    x.late(0, 1, 1);
    // what does not rest is no choice; of those that rest the least sum; 0 comes to 1 only if 0 is silent or far
    due("34", x.best(false), 0);
    due("35: 0 at site 1", x.bestSum(false), 10);
    due("36: the first kinds by which 0 comes to 1", x.bestKind(false, 0) * 10 + x.bestKind(false, 1), 40);
  }

  private static void aims() {
    NearCopies x = Bench.nets(10, 20, 30);
    x.tie(0, 1, false);
    x.tie(1, 2, false);
    x.site(0, 30);
    x.site(2, 50);
    due("37: its own", x.aim(0, 0), 0);
    x.kind(1, 3);
    due("37: its own of now", x.aim(1, 3), 3);
    due("37: UNKNOWN", x.aim(2, 5), UNKNOWN);
    due("37: OUTSIDE", x.aim(0, 5), OUTSIDE);
    due("37: OUTSIDE", x.aim(0, -1), OUTSIDE);
    due("38: none", x.steps(), 0);
    due("40: none", x.stepWorst(), 0);
    due("41: none", x.go(), NONE);
    x.kind(1, 0);
    due("38: what was told stays", x.steps(), 1);
    due("37: what was told", x.aim(1, 0), 3);
    // from 0 said, 1 said; to 0 silent, 1 said kind 1: 1 comes to 0, with 30 of 30; then to 1, with 50 of 50
    x.kind(0, 1);
    x.kind(1, 4);
    x.aim(0, 4);
    x.aim(1, 1);
    due("38: two", x.steps(), 2);
    dueRow("39: by sites", new long[] {x.step(0), x.step(1), x.step(2), x.step(-1)}, 0, 1, NONE, NONE);
    due("40: never too full", x.stepWorst(), 0);
    x.room(1, 40);
    due("40: behind the last", x.stepWorst(), 10);
    x.room(0, 0);
    // 1 first: 0 keeps 10 and 20 (excess 30); 0 first: nobody is anywhere, then 10
    dueRow("39", new long[] {x.step(0), x.step(1), x.stepWorst()}, 0, 1, 10);
    due("41: go", x.go(), 0);
    due("41: made", x.kind(0, 4), 4);
    due("38: one is left", x.steps(), 1);
    due("41: go", x.go(), 1);
    due("41: at the aim", x.go(), NONE);
    due("10", x.kind(1, 1), 1);
  }

  private static void bestOrder() {
    NearCopies x = Bench.nets(10, 20, 30);
    x.tie(0, 1, false);
    x.tie(1, 2, false);
    x.site(0, 0);
    x.site(2, 100);
    x.kind(1, 4);
    x.aim(1, 0);
    x.kind(0, 0);
    x.aim(0, 1);
    // 0 first: 30 at site 0; 1 first: 1 has both with two names, 0 is less: 30; behind both: 1 goes to 2: 10
    dueRow("39: alike: by sites", new long[] {x.step(0), x.step(1), x.stepWorst()}, 0, 1, 30);
    x.kind(0, 1);
    x.aim(0, 2);
    // 0 first: 30; 1 first: 10, then 10
    dueRow("39: the better order", new long[] {x.step(0), x.step(1), x.stepWorst()}, 1, 0, 10);
    due("41", x.go(), 1);
    dueRow("39", new long[] {x.step(0), x.step(1), x.stepWorst()}, 0, NONE, 10);
    x.up(0, false);
    dueRow("38: a fallen site's kind changes too", new long[] {x.steps(), x.step(0), x.stepWorst(), x.go(), x.kind(0, 0)}, 1, 0, 0, 0, 2);
  }

  private static void stepsWithoutRest() {
    NearCopies x = Bench.ring();
    x.kind(0, 0);
    x.aim(0, 2);
    dueRow("40: no rest behind it", new long[] {x.steps(), x.step(0), x.stepWorst()}, 1, 0, 1000000);
    x.aim(1, 4);
    // 1 first: then only site 0 speaks, with 100 of 15
    dueRow("39: around the ring", new long[] {x.step(0), x.step(1), x.stepWorst()}, 1, 0, 85);
    x.aim(0, 0);
    x.aim(1, 0);
    x.kind(0, 2);
    dueRow("40: out of the ring; only what is behind a step counts", new long[] {x.steps(), x.stepWorst()}, 1, 45 + 15);
    due("41", x.go(), 0);
    due("41: and it rests", x.rounds() != NONE ? 1 : 0, 1);
  }

  private static long[] askAll(NearCopies x) {
    long[] all = new long[14];
    int i = 0;
    all[i++] = x.agree();
    all[i++] = x.could(0);
    all[i++] = x.rules(0);
    all[i++] = x.quarrel();
    all[i++] = x.next(false);
    all[i++] = x.next(true);
    all[i++] = x.excess();
    all[i++] = x.sum();
    all[i++] = x.without(1);
    all[i++] = x.best(false);
    all[i++] = x.bestSum(true);
    all[i++] = x.bestKind(true, 0);
    all[i++] = x.step(0);
    all[i++] = x.stepWorst();
    return all;
  }

  private static NearCopies forChange() {
    NearCopies x = fork();
    x.guess(0, 11);
    x.askers(0, 50);
    x.askers(1, 7);
    x.net(5);
    x.net(6);
    x.tie(4, 0, true);
    x.late(0, 1, 3);
    x.aim(1, 3);
    x.aim(0, 2);
    x.trial();
    return x;
  }

  private static void change(NearCopies x, int which) {
    switch (which) {
      case 0: x.net(9); break;
      case 1: x.tie(3, 0, true); break;
      case 2: x.askers(2, 100); break;
      case 3: x.guess(0, 6); break;
      case 4: x.site(0, 1); break;
      case 5: x.room(0, 55); break;
      case 6: x.up(0, false); break;
      case 7: x.kind(0, 1); break;
      case 8: x.held(0, 1); break;
      case 9: x.near(0, true); break;
      case 10: x.late(0, 0, 900); break;
      case 11: x.seen(0, 0, 1); break;
      case 12: x.seen(0, 1, NONE); break;
      case 13: x.seen(0, 0, 1); x.learn(); break;
      case 14: x.go(); break;
      default: x.aim(0, 0);
    }
  }

  /** An object that was asked ahead of a change answers behind it as one that was not. */
  private static void changesAreSeen() {
    for (int which = 0; which < 16; which++) {
      NearCopies asked = forChange();
      NearCopies fresh = forChange();
      long[] before = askAll(asked);
      change(asked, which);
      change(fresh, which);
      long[] behind = askAll(asked);
      dueRow("behind change " + which, behind, askAll(fresh));
      due("change " + which + " tells", java.util.Arrays.equals(before, behind) ? 0 : 1, 1);
    }
  }

  private static void count() {
    NearCopies x = Bench.ring();
    x.up(0, false);
    x.trial();
    x.guess(2, 3);
    dueRow("42", new long[] {x.count(0), x.count(1), x.count(2), x.count(3), x.count(4), x.count(5), x.count(6)}, 4, 3, 2, 1, 1, 100, 3);
    for (int w : new int[] {-1, 7, Integer.MIN_VALUE, Integer.MAX_VALUE}) due("42: OUTSIDE", x.count(w), OUTSIDE);
  }

  public static void main(String[] args) {
    newObject();
    net();
    tie();
    tieFull();
    tied();
    askersAndGuess();
    site();
    partsOfSites();
    rounds();
    passingOn();
    namesAndWay();
    whyAndTold();
    sitesAtOneNet();
    withoutRest();
    loads();
    moves();
    trials();
    casesCounted();
    casesCut();
    quarrelBehindOthers();
    casesWithoutRest();
    choices();
    choicesWithoutRest();
    aims();
    bestOrder();
    stepsWithoutRest();
    changesAreSeen();
    count();
    Bench.end("promises");
  }
}
