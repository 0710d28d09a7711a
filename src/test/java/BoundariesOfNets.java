/** Terms, part 1, and promises 1 to 13: each sentence that names a boundary, one check or more. */
public final class BoundariesOfNets {
  private static final int UNKNOWN = Bench.UNKNOWN, OUTSIDE = Bench.OUTSIDE, STATE = Bench.STATE, FULL = Bench.FULL;

  private static void due(String what, long got, long want) { Bench.due(what, got, want); }

  // ---- 1: No NETS

  private static void newObject() {
    for (int what = 0; what <= 6; what++) {
      int asked = what;
      Bench.still("1: count(" + what + ") of a new object", Bench.NEW, x -> x.count(asked), 0);
    }
    NearCopies other = Bench.crowded();
    due("1: another object is full", other.net(0), FULL);
    due("1: a new one beside it has no nets", new NearCopies().net(0), 0);
  }

  private static void nothingThereYet() {
    Bench.still("3: tie", Bench.NEW, x -> x.tie(0, 0, true), UNKNOWN);
    Bench.still("4: tied", Bench.NEW, x -> x.tied(0, 0), UNKNOWN);
    Bench.still("5: askers", Bench.NEW, x -> x.askers(0, 0), UNKNOWN);
    Bench.still("6: guess", Bench.NEW, x -> x.guess(0, 1), UNKNOWN);
    Bench.still("7: site", Bench.NEW, x -> x.site(0, 0), UNKNOWN);
    Bench.still("8: room", Bench.NEW, x -> x.room(0, 0), UNKNOWN);
    Bench.still("9: up", Bench.NEW, x -> x.up(0, true), UNKNOWN);
    Bench.still("10: kind", Bench.NEW, x -> x.kind(0, 0), UNKNOWN);
    Bench.still("11: held", Bench.NEW, x -> x.held(0, 0), UNKNOWN);
    Bench.still("12: near", Bench.NEW, x -> x.near(0, true), UNKNOWN);
    Bench.still("13: late", Bench.NEW, x -> x.late(0, 0, 0), UNKNOWN);
    Bench.Recipe bare = () -> Bench.nets(5);
    Bench.still("8: a net, but no site", bare, x -> x.room(0, 0), UNKNOWN);
    Bench.still("13: a net, but no site", bare, x -> x.late(0, 0, 0), UNKNOWN);
  }

  // ---- 2: OUTSIDE; FULL: 10

  private static void net() {
    Bench.refusedBeyond("2: net of a new object", Bench.NEW, NearCopies::net, 0, 10000, OUTSIDE);
    for (int askers : new int[] {0, 1, 9999, 10000}) {
      NearCopies x = new NearCopies();
      due("2: net(" + askers + ")", x.net(askers), 0);
      due("2: has them", x.askers(0, 0), askers);
    }
    NearCopies x = new NearCopies();
    for (int i = 0; i < 10; i++) {
      due("2: refused, it takes no number", x.net(-1), OUTSIDE);
      due("2: its number", x.net(i), i);
      due("1: rule 0 alone at first", x.guess(i, 1), 1);
    }
    due("2: all are there", x.count(0), 10);
    Bench.still("2: FULL: one more than ten", Bench.CROWDED, y -> y.net(0), FULL);
    Bench.still("2: FULL with the most askers", Bench.CROWDED, y -> y.net(10000), FULL);
    Bench.refusedBeyond("2: OUTSIDE ahead of FULL", Bench.CROWDED, NearCopies::net, 0, 10000, OUTSIDE);
  }

  // ---- 3: UNKNOWN; STATE: both are one, have one, or a NET would buy from itself; FULL: 20

  private static void tieUnknown() {
    for (boolean buys : new boolean[] {false, true}) {
      Bench.known("3: tie of a", Bench.LIVED, (x, a) -> x.tie(a, 1, buys), 3);
      Bench.known("3: tie to b", Bench.LIVED, (x, b) -> x.tie(1, b, buys), 3);
      Bench.known("3: UNKNOWN ahead of FULL", Bench.CROWDED, (x, a) -> x.tie(a, 9, buys), 10);
      Bench.still("3: UNKNOWN ahead of: both are one", Bench.LIVED, x -> x.tie(3, 3, buys), UNKNOWN);
      Bench.still("3: UNKNOWN ahead of: both are one", Bench.LIVED, x -> x.tie(-1, -1, buys), UNKNOWN);
    }
  }

  private static void tieState() {
    for (boolean buys : new boolean[] {false, true}) {
      for (int net = 0; net < 3; net++) {
        int one = net;
        Bench.still("3: both are one", Bench.LIVED, x -> x.tie(one, one, buys), STATE);
      }
      Bench.still("3: one buys: they have one", Bench.LIVED, x -> x.tie(1, 0, buys), STATE);
      Bench.still("3: one buys: they have one, turned", Bench.LIVED, x -> x.tie(0, 1, buys), STATE);
      Bench.still("3: both swap: they have one", Bench.LIVED, x -> x.tie(2, 0, buys), STATE);
      Bench.still("3: both swap: they have one, turned", Bench.LIVED, x -> x.tie(0, 2, buys), STATE);
      Bench.still("3: both are one, ahead of FULL", Bench.CROWDED, x -> x.tie(4, 4, buys), STATE);
      Bench.still("3: they have one, ahead of FULL", Bench.CROWDED, x -> x.tie(1, 0, buys), STATE);
    }
    Bench.still("3: a net would buy from itself, ahead of FULL", Bench.CROWDED, x -> x.tie(9, 1, true), STATE);
  }

  /** 0 buys from 1, 1 from 2, and so on. */
  private static NearCopies chain(int amount) {
    NearCopies x = new NearCopies();
    for (int net = 0; net < amount; net++) x.net(0);
    for (int net = 0; net + 1 < amount; net++) x.tie(net, net + 1, true);
    return x;
  }

  private static void tieBuysFromItself() {
    for (int amount = 3; amount <= 10; amount++) {
      int last = amount - 1;
      Bench.Recipe recipe = () -> chain(last + 1);
      Bench.still("3: the last of " + amount + " would buy from itself", recipe, x -> x.tie(last, 0, true), STATE);
      due("3: it may swap", chain(amount).tie(last, 0, false), amount);
      due("3: the first may buy from the last", chain(amount).tie(0, last, true), amount);
    }
    NearCopies x = Bench.nets(0, 0, 0);
    x.tie(0, 1, false);
    x.tie(1, 2, true);
    due("3: through a swap nobody buys", x.tie(2, 0, true), 3);
    for (int first = 1; first <= 2; first++) {
      x = Bench.nets(0, 0, 0, 0);
      x.tie(0, first, true);
      x.tie(0, 3 - first, true);
      x.tie(1, 3, true);
      due("3: through either of two sellers, whichever came first", x.tie(3, 0, true), STATE);
      due("3: beside them it may", x.tie(3, 2, true), 4);
      due("3: 2 sells to 3, 3 to 1: it may not buy from 1", x.tie(2, 1, true), STATE);
    }
  }

  private static void tieFull() {
    NearCopies x = Bench.crowded();
    due("3: twenty are there", x.count(1), 20);
    for (boolean buys : new boolean[] {false, true}) {
      Bench.still("3: FULL: one more than twenty", Bench.CROWDED, y -> y.tie(0, 5, buys), FULL);
      Bench.still("3: FULL, in the middle", Bench.CROWDED, y -> y.tie(3, 7, buys), FULL);
    }
    Bench.still("3: FULL, where a swap would be fine", Bench.CROWDED, y -> y.tie(5, 0, false), FULL);
    x = new NearCopies();
    for (int net = 0; net < 7; net++) x.net(0);
    int ties = 0;
    for (int a = 0; a < 7 && ties < 20; a++) {
      for (int b = a + 1; b < 7 && ties < 20; b++) {
        ties++;
        due("3: how many ties there are", x.tie(a, b, ties % 2 == 0), ties);
      }
    }
    due("3: the last pair is too much", x.tie(5, 6, false), FULL);
    due("3: they have none", x.tied(5, 6), 0);
  }

  // ---- 4: 0 none, 1 it buys from a, 2 they SWAP, 3 a buys from it. UNKNOWN

  private static void tied() {
    Bench.still("4: 0: none", Bench.LIVED, x -> x.tied(1, 2), 0);
    Bench.still("4: 0: a net to itself", Bench.LIVED, x -> x.tied(1, 1), 0);
    Bench.still("4: 1: it buys from a", Bench.LIVED, x -> x.tied(0, 1), 1);
    Bench.still("4: 2: they swap", Bench.LIVED, x -> x.tied(0, 2), 2);
    Bench.still("4: 2: they swap, turned", Bench.LIVED, x -> x.tied(2, 0), 2);
    Bench.still("4: 3: a buys from it", Bench.LIVED, x -> x.tied(1, 0), 3);
    Bench.known("4: tied of a", Bench.LIVED, (x, a) -> x.tied(a, 0), 3);
    Bench.known("4: tied of b", Bench.LIVED, (x, b) -> x.tied(0, b), 3);
    Bench.known("4: tied of ten", Bench.CROWDED, (x, a) -> x.tied(a, 9), 10);
    NearCopies x = Bench.crowded();
    due("4: the last pair", x.tied(8, 9) * 10 + x.tied(9, 8), 31);
  }

  // ---- 5 and 6: UNKNOWN; OUTSIDE

  private static void askersAndGuess() {
    Bench.takenWithin("5: askers", Bench.LIVED, (x, n) -> x.askers(1, n), 0, 10000);
    Bench.known("5: askers", Bench.LIVED, (x, net) -> x.askers(net, 1), 3);
    Bench.known("5: UNKNOWN ahead of OUTSIDE", Bench.LIVED, (x, net) -> x.askers(net, -1), 3);
    Bench.known("5: askers of ten", Bench.CROWDED, (x, net) -> x.askers(net, 10001), 10);
    due("5: how many it had", Bench.lived().askers(2, 3), 9);
    NearCopies x = Bench.lived();
    x.askers(1, 3);
    due("5: of that net alone", x.count(5), 7 + 3 + 9);
    Bench.takenWithin("6: guess", Bench.LIVED, (y, rules) -> y.guess(1, rules), 1, 15);
    Bench.known("6: guess", Bench.LIVED, (y, net) -> y.guess(net, 1), 3);
    Bench.known("6: UNKNOWN ahead of OUTSIDE", Bench.LIVED, (y, net) -> y.guess(net, 0), 3);
    Bench.known("6: guess of ten", Bench.CROWDED, (y, net) -> y.guess(net, 16), 10);
    x = Bench.nets(0);
    int was = 1;
    for (int rules = 1; rules <= 15; rules++) {
      due("6: what it was", x.guess(0, rules), was);
      was = rules;
    }
  }

  /**
   * Net 0 hears 1 (who buys; four names), 2 and 3 (who buy; three), 4 (who sells; two): by rule 0 it takes 2's word, by
   * rule 1 3's, by rule 2 4's, by rule 3 1's.
   */
  private static NearCopies fourRules() {
    NearCopies x = Bench.nets(1, 0, 0, 0, 0);
    for (int buyer = 1; buyer <= 3; buyer++) x.tie(buyer, 0, true);
    x.tie(0, 4, true);
    for (int home = 1; home <= 4; home++) x.site(home, 0);
    x.kind(0, 2);
    x.kind(1, 1);
    x.kind(2, 1);
    return x;
  }

  private static void leastOfGuess() {
    int[] site = {1, 2, 3, 0};
    for (int guess = 1; guess <= 15; guess++) {
      NearCopies x = fourRules();
      x.guess(0, guess);
      int rule = 0;
      while ((guess >> rule & 1) == 0) rule++;
      due("1: the rule is the least of guess " + guess, x.comes(0), site[rule]);
    }
    due("1: at first it is rule 0", fourRules().comes(0), 1);
  }

  // ---- 7: UNKNOWN; OUTSIDE; FULL: 4

  private static void site() {
    Bench.known("7: site", Bench.LIVED, (x, home) -> x.site(home, 0), 3);
    Bench.known("7: UNKNOWN ahead of OUTSIDE", Bench.LIVED, (x, home) -> x.site(home, -1), 3);
    Bench.known("7: UNKNOWN ahead of FULL", Bench.CROWDED, (x, home) -> x.site(home, 0), 10);
    Bench.refusedBeyond("7: room", Bench.LIVED, (x, room) -> x.site(0, room), 0, 100000, OUTSIDE);
    Bench.refusedBeyond("7: OUTSIDE ahead of FULL", Bench.CROWDED, (x, room) -> x.site(0, room), 0, 100000, OUTSIDE);
    Bench.still("7: FULL: one more than four", Bench.CROWDED, x -> x.site(0, 0), FULL);
    Bench.still("7: FULL, at the last net", Bench.CROWDED, x -> x.site(9, 100000), FULL);
    NearCopies x = Bench.nets(5, 6);
    int[] rooms = {0, 1, 99999, 100000};
    for (int i = 0; i < 4; i++) {
      due("7: refused, it takes no number", x.site(2, 0), UNKNOWN);
      due("7: refused, it takes no number", x.site(0, -1), OUTSIDE);
      due("7: its number", x.site(1, rooms[i]), i);
      due("7: KIND 0", x.kind(i, 0), 0);
      due("7: UP", x.up(i, true), 1);
      due("7: HELD from none", x.held(i, 0), 0);
      due("7: not NEAR", x.near(i, false), 0);
      due("7: its room", x.room(i, 0), rooms[i]);
      due("13: LATE 0 at first", x.late(0, i, 0) + x.late(1, i, 0), 0);
    }
    due("7: all at one home", x.told(1), 4);
    due("7: none at the other", x.told(0), 0);
  }

  // ---- 8, 9, 10, 12: one part of a site

  private static void partsOfSite() {
    Bench.takenWithin("8: room", Bench.LIVED, (x, n) -> x.room(1, n), 0, 100000);
    Bench.known("8: room", Bench.LIVED, (x, site) -> x.room(site, 1), 2);
    Bench.known("8: UNKNOWN ahead of OUTSIDE", Bench.LIVED, (x, site) -> x.room(site, -1), 2);
    Bench.known("8: room of four", Bench.CROWDED, (x, site) -> x.room(site, 100001), 4);
    due("8: what it was", Bench.lived().room(1, 9), 6);
    Bench.takenWithin("10: kind", Bench.LIVED, (x, kind) -> x.kind(1, kind), 0, 4);
    Bench.known("10: kind", Bench.LIVED, (x, site) -> x.kind(site, 1), 2);
    Bench.known("10: UNKNOWN ahead of OUTSIDE", Bench.LIVED, (x, site) -> x.kind(site, 5), 2);
    Bench.known("10: kind of four", Bench.CROWDED, (x, site) -> x.kind(site, -1), 4);
    due("10: what it was", Bench.lived().kind(0, 4), 1);
    for (boolean yes : new boolean[] {false, true}) {
      Bench.known("9: up", Bench.LIVED, (x, site) -> x.up(site, yes), 2);
      Bench.known("9: up of four", Bench.CROWDED, (x, site) -> x.up(site, yes), 4);
      Bench.known("12: near", Bench.LIVED, (x, site) -> x.near(site, yes), 2);
      Bench.known("12: near of four", Bench.CROWDED, (x, site) -> x.near(site, yes), 4);
    }
    NearCopies x = Bench.lived();
    Bench.dueRow("9: whether it was UP", new long[] {x.up(0, true), x.up(0, false), x.up(0, false), x.up(0, true), x.up(0, true)}, 1, 1, 0, 0, 1);
    Bench.dueRow("12: whether it was NEAR", new long[] {x.near(0, false), x.near(0, true), x.near(0, true), x.near(0, false), x.near(0, false)}, 0, 0, 1, 1, 0);
    x = Bench.lived();
    x.up(1, false);
    x.up(1, true);
    Bench.dueRow("9: UP again, it is as it was", new long[] {x.kind(1, 0), x.near(1, false), x.room(1, 0), x.aim(1, 0)}, 0, 1, 6, 3);
  }

  // ---- 11: UNKNOWN; OUTSIDE: a bit is no NET

  private static void held() {
    for (int bit = 0; bit < 3; bit++) {
      NearCopies x = Bench.lived();
      due("11: what it was", x.held(0, 1 << bit), 4);
      due("11: the bit of a net is taken", x.held(0, 0), 1 << bit);
    }
    for (int bit = 3; bit < 32; bit++) {
      int set = 1 << bit;
      Bench.still("11: bit " + bit + " is no net", Bench.LIVED, x -> x.held(0, set), OUTSIDE);
      Bench.still("11: bit " + bit + " beside those of all nets", Bench.LIVED, x -> x.held(0, set | 7), OUTSIDE);
    }
    Bench.takenWithin("11: held of three nets", Bench.LIVED, (x, set) -> x.held(1, set), 0, 7);
    Bench.takenWithin("11: held of ten nets", Bench.CROWDED, (x, set) -> x.held(3, set), 0, 1023);
    Bench.known("11: held", Bench.LIVED, (x, site) -> x.held(site, 1), 2);
    Bench.known("11: UNKNOWN ahead of OUTSIDE", Bench.LIVED, (x, site) -> x.held(site, 8), 2);
    Bench.known("11: held of four", Bench.CROWDED, (x, site) -> x.held(site, 1024), 4);
    NearCopies x = Bench.lived();
    x.net(0);
    due("11: a net that came is a bit", x.held(0, 8), 4);
    due("11: the next is not", x.held(0, 16), OUTSIDE);
  }

  // ---- 13: UNKNOWN; OUTSIDE

  private static void late() {
    Bench.takenWithin("13: late", Bench.LIVED, (x, v) -> x.late(2, 1, v), 0, 999);
    Bench.takenWithin("13: late of the last two", Bench.CROWDED, (x, v) -> x.late(9, 3, v), 0, 999);
    Bench.known("13: late of a net", Bench.LIVED, (x, net) -> x.late(net, 0, 1), 3);
    Bench.known("13: late of a site", Bench.LIVED, (x, site) -> x.late(0, site, 1), 2);
    Bench.known("13: a net UNKNOWN ahead of OUTSIDE", Bench.LIVED, (x, net) -> x.late(net, 0, -1), 3);
    Bench.known("13: a site UNKNOWN ahead of OUTSIDE", Bench.LIVED, (x, site) -> x.late(0, site, 1000), 2);
    Bench.known("13: late of ten nets", Bench.CROWDED, (x, net) -> x.late(net, 3, 1000), 10);
    Bench.known("13: late of four sites", Bench.CROWDED, (x, site) -> x.late(9, site, 1000), 4);
    NearCopies x = Bench.crowded();
    for (int net = 0; net < 10; net++) for (int site = 0; site < 4; site++) due("13: 0 at first", x.late(net, site, 10 * net + site), 0);
    for (int net = 0; net < 10; net++) for (int site = 0; site < 4; site++) due("13: each by itself", x.late(net, site, 0), 10 * net + site);
  }

  public static void main(String[] args) {
    newObject();
    nothingThereYet();
    net();
    tieUnknown();
    tieState();
    tieBuysFromItself();
    tieFull();
    tied();
    askersAndGuess();
    leastOfGuess();
    site();
    partsOfSite();
    held();
    late();
    Bench.end("boundaries of nets and sites");
  }
}
