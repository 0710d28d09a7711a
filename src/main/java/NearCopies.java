import java.util.Arrays;

/** One name answered by some sites of a net of nets: who comes to which site, what could be, and what to say. */
public final class NearCopies {
    public static final int UNKNOWN = -1, OUTSIDE = -2, STATE = -3, FULL = -4, SPENT = -5, NONE = -9;

    private static final int MOST_NETS = 10;
    private static final int MOST_TIES = 20;
    private static final int MOST_SITES = 4;
    private static final int MOST_TRIALS = 6;
    private static final int MOST_CASES = 256;
    private static final int MOST_ROUNDS = 40;
    private static final int MOST_ASKERS = 10000;
    private static final int MOST_ROOM = 100000;
    private static final int MOST_LATE = 999;
    private static final int LATE_OF_NONE = 1000;
    private static final int ALL_RULES = 15;
    private static final int SILENT = 4;
    private static final int NOTHING_SEEN = 4;
    private static final int BIT_OF_NONE = 16;
    private static final int WORST_WITHOUT_REST = 1000000;

    private static final int BUYER = 1;
    private static final int SWAPPER = 2;
    private static final int SELLER = 3;

    private final Nets nets;
    private final Sites sites;
    private final Words now;
    private final Flow flow;
    private final Chart chart;
    private final Order order;
    private final Cases cases;

    public NearCopies() {
        Nets madeNets = new Nets();
        Sites madeSites = new Sites();
        Words madeWords = new Words();
        Flow madeFlow = new Flow(madeNets, madeSites);
        Chart madeChart = new Chart(madeNets, madeSites, madeWords, madeFlow);
        nets = madeNets;
        sites = madeSites;
        now = madeWords;
        flow = madeFlow;
        chart = madeChart;
        order = new Order(madeSites, madeWords, madeChart);
        cases = new Cases(madeNets, madeWords, madeFlow);
    }

    // ---- nets, sites

    public int net(int askers) {
        if (!within(askers, MOST_ASKERS)) {
            return OUTSIDE;
        }
        if (nets.amount >= MOST_NETS) {
            return FULL;
        }
        forgetAll();
        return nets.add(askers);
    }

    public int tie(int a, int b, boolean buys) {
        if (!nets.has(a) || !nets.has(b)) {
            return UNKNOWN;
        }
        if (a == b || nets.bond(a, b) != 0 || buys && nets.buysFrom(b, a)) {
            return STATE;
        }
        if (nets.ties >= MOST_TIES) {
            return FULL;
        }
        forgetAll();
        return nets.join(a, b, buys);
    }

    public int tied(int a, int b) {
        if (!nets.has(a) || !nets.has(b)) {
            return UNKNOWN;
        }
        return nets.bond(a, b);
    }

    public int askers(int net, int n) {
        if (!nets.has(net)) {
            return UNKNOWN;
        }
        if (!within(n, MOST_ASKERS)) {
            return OUTSIDE;
        }
        forgetAll();
        return put(nets.asking, net, n);
    }

    public int guess(int net, int rules) {
        if (!nets.has(net)) {
            return UNKNOWN;
        }
        if (rules == 0 || !within(rules, ALL_RULES)) {
            return OUTSIDE;
        }
        forgetAll();
        return put(nets.guesses, net, rules);
    }

    public int site(int home, int room) {
        if (!nets.has(home)) {
            return UNKNOWN;
        }
        if (!within(room, MOST_ROOM)) {
            return OUTSIDE;
        }
        if (now.amount >= MOST_SITES) {
            return FULL;
        }
        forgetAll();
        sites.homes[now.amount] = home;
        sites.rooms[now.amount] = room;
        return now.add();
    }

    public int room(int site, int n) {
        if (!now.has(site)) {
            return UNKNOWN;
        }
        if (!within(n, MOST_ROOM)) {
            return OUTSIDE;
        }
        forgetAll();
        return put(sites.rooms, site, n);
    }

    public int up(int site, boolean up) {
        if (!now.has(site)) {
            return UNKNOWN;
        }
        forgetAll();
        return put(now.ups, site, up);
    }

    public int kind(int site, int kind) {
        if (!now.has(site)) {
            return UNKNOWN;
        }
        if (!within(kind, SILENT)) {
            return OUTSIDE;
        }
        forgetAll();
        return put(now.kinds, site, kind);
    }

    public int held(int site, int set) {
        if (!now.has(site)) {
            return UNKNOWN;
        }
        if (!within(set, nets.everyone())) {
            return OUTSIDE;
        }
        forgetAll();
        return put(now.holds, site, set);
    }

    public int near(int site, boolean near) {
        if (!now.has(site)) {
            return UNKNOWN;
        }
        forgetAll();
        return put(now.nears, site, near);
    }

    public int late(int net, int site, int v) {
        if (!nets.has(net) || !now.has(site)) {
            return UNKNOWN;
        }
        if (!within(v, MOST_LATE)) {
            return OUTSIDE;
        }
        forgetAll();
        return put(sites.lates, net * MOST_SITES + site, v);
    }

    // ---- rest

    public int rounds() {
        return settleNow();
    }

    public int comes(int net) {
        int refusal = restRefusal(nets.has(net));
        return refusal != 0 ? refusal : flow.comesTo(net);
    }

    public int names(int net) {
        int refusal = restRefusal(nets.has(net));
        return refusal != 0 ? refusal : Flow.namesOf(flow.chosen[net]);
    }

    public int way(int net, int i) {
        int refusal = restRefusal(nets.has(net));
        return refusal != 0 ? refusal : Flow.passedAt(flow.chosen[net], i);
    }

    public int told(int net) {
        int refusal = restRefusal(nets.has(net));
        if (refusal != 0) {
            return refusal;
        }
        flow.hear(now, net);
        return flow.heard;
    }

    public int why(int net) {
        int refusal = restRefusal(nets.has(net));
        if (refusal != 0) {
            return refusal;
        }
        flow.hear(now, net);
        return flow.needed(net);
    }

    public int load(int site) {
        int refusal = restRefusal(now.has(site));
        if (refusal != 0) {
            return refusal;
        }
        int all = 0;
        for (int net = 0; net < nets.amount; net++) {
            if (flow.comesTo(net) == site) {
                all += nets.asking[net];
            }
        }
        return all;
    }

    public int excess() {
        chart.pickNow();
        return stateIfNone(chart.excesses[chart.measure()]);
    }

    public long sum() {
        chart.pickNow();
        int at = chart.measure();
        return chart.excesses[at] == NONE ? STATE : chart.sums[at];
    }

    public int without(int site) {
        if (!now.has(site)) {
            return UNKNOWN;
        }
        if (!now.ups[site]) {
            return STATE;
        }
        chart.pickNow();
        chart.picked[site] = SILENT;
        return stateIfNone(chart.excesses[chart.measure()]);
    }

    public int moves(int site, int kind) {
        if (!now.has(site)) {
            return UNKNOWN;
        }
        if (!within(kind, SILENT)) {
            return OUTSIDE;
        }
        if (settleNow() == NONE) {
            return STATE;
        }
        int before = flow.outcome();
        int own = put(now.kinds, site, kind);
        boolean rests = settleNow() != NONE;
        now.kinds[site] = own;
        return rests ? nets.askersUnlike(before, flow.outcome()) : STATE;
    }

    // ---- cases, trials

    public int trial() {
        if (cases.trialCount >= MOST_TRIALS) {
            return FULL;
        }
        cases.forget();
        return cases.keepTrial();
    }

    public int seen(int trial, int net, int site) {
        boolean sayable = site == NONE || site == NOTHING_SEEN || now.has(site);
        if (trial < 0 || trial >= cases.trialCount || !nets.has(net) || !sayable) {
            return UNKNOWN;
        }
        cases.forget();
        return put(cases.trials[trial].seen, net, site);
    }

    public int cases() {
        int all = nets.caseCount();
        return all > MOST_CASES ? SPENT : all;
    }

    public int agree() {
        return cases.sift() ? cases.agreeing : SPENT;
    }

    public int could(int net) {
        if (!nets.has(net)) {
            return UNKNOWN;
        }
        return cases.sift() ? cases.sitesOf(net) : SPENT;
    }

    public int rules(int net) {
        if (!nets.has(net)) {
            return UNKNOWN;
        }
        return cases.sift() ? cases.rulesOf(net) : SPENT;
    }

    public int learn() {
        if (!cases.sift()) {
            return SPENT;
        }
        if (cases.agreeing == 0) {
            return STATE;
        }
        for (int net = 0; net < nets.amount; net++) {
            nets.guesses[net] = cases.rulesOf(net);
        }
        forgetAll();
        return nets.caseCount();
    }

    public int quarrel() {
        return cases.sift() ? cases.quarrelAt : SPENT;
    }

    public int next(boolean part) {
        if (!cases.sift()) {
            return SPENT;
        }
        if (cases.agreeing < 2 || now.upCount() == 0) {
            return NONE;
        }
        cases.seekTrial();
        return part ? cases.leastAlike : 10 * cases.nextSite + cases.nextKind;
    }

    // ---- choices, steps

    public int best(boolean safe) {
        chart.measureAll();
        chart.seek(safe);
        return chart.bestExcess;
    }

    public long bestSum(boolean safe) {
        chart.measureAll();
        chart.seek(safe);
        return chart.bestExcess == NONE ? NONE : chart.bestTotal;
    }

    public int bestKind(boolean safe, int site) {
        if (!now.has(site)) {
            return UNKNOWN;
        }
        chart.measureAll();
        chart.seek(safe);
        if (chart.bestExcess == NONE) {
            return NONE;
        }
        return now.ups[site] ? chart.bestKinds[site] : now.kinds[site];
    }

    public int aim(int site, int kind) {
        if (!now.has(site)) {
            return UNKNOWN;
        }
        if (!within(kind, SILENT)) {
            return OUTSIDE;
        }
        int before = order.aimOf(site);
        sites.aims[site] = kind;
        return before;
    }

    public int steps() {
        return Integer.bitCount(order.toChange());
    }

    public int step(int i) {
        order.plan();
        return i >= 0 && i < order.length ? order.row[i] : NONE;
    }

    public int stepWorst() {
        order.plan();
        return order.worst;
    }

    public int go() {
        order.plan();
        if (order.length == 0) {
            return NONE;
        }
        int site = order.row[0];
        now.kinds[site] = order.aimOf(site);
        forgetAll();
        return site;
    }

    public int count(int what) {
        switch (what) {
            case 0:
                return nets.amount;
            case 1:
                return nets.ties;
            case 2:
                return now.amount;
            case 3:
                return now.upCount();
            case 4:
                return cases.trialCount;
            case 5:
                return nets.allAskers();
            case 6:
                return nets.surelyGuessed();
            default:
                return OUTSIDE;
        }
    }

    private static boolean within(int number, int most) {
        return number >= 0 && number <= most;
    }

    private static int put(int[] row, int at, int value) {
        int before = row[at];
        row[at] = value;
        return before;
    }

    private static int put(boolean[] row, int at, boolean value) {
        int before = row[at] ? 1 : 0;
        row[at] = value;
        return before;
    }

    private static int stateIfNone(int answer) {
        return answer == NONE ? STATE : answer;
    }

    /** What was worked out ahead of a change may be wrong behind it. */
    private void forgetAll() {
        chart.forget();
        cases.forget();
    }

    private int settleNow() {
        flow.takeLeastRules();
        return flow.settle(now);
    }

    /** 0: nothing is refused, and the flow is at rest with the words as they are now. */
    private int restRefusal(boolean known) {
        if (!known) {
            return UNKNOWN;
        }
        return settleNow() == NONE ? STATE : 0;
    }

    /** Nets, what each is to each other one, and what is guessed of their rules. */
    private static final class Nets {
        int amount;
        int ties;
        final int[] asking = new int[MOST_NETS];
        final int[] guesses = new int[MOST_NETS];
        final int[] bonds = new int[MOST_NETS * MOST_NETS];
        /** Of each net, the set of those with which it has a tie, and of those from which it buys. */
        final int[] joined = new int[MOST_NETS];
        final int[] sellers = new int[MOST_NETS];

        boolean has(int net) {
            return net >= 0 && net < amount;
        }

        int everyone() {
            return (1 << amount) - 1;
        }

        int add(int askers) {
            asking[amount] = askers;
            guesses[amount] = 1;
            amount++;
            return amount - 1;
        }

        /** What b is to a. */
        int bond(int a, int b) {
            return bonds[a * MOST_NETS + b];
        }

        int join(int a, int b, boolean buys) {
            bonds[a * MOST_NETS + b] = buys ? SELLER : SWAPPER;
            bonds[b * MOST_NETS + a] = buys ? BUYER : SWAPPER;
            joined[a] |= 1 << b;
            joined[b] |= 1 << a;
            if (buys) {
                sellers[a] |= 1 << b;
            }
            ties++;
            return ties;
        }

        /** Whether a buys from b, itself or through others. */
        boolean buysFrom(int a, int b) {
            int reached = sellers[a];
            for (int pass = 0; pass < amount; pass++) {
                reached |= union(sellers, reached);
            }
            return (reached >> b & 1) != 0;
        }

        /** All that the rows of the nets of a set hold. */
        int union(int[] rows, int set) {
            int all = 0;
            for (int net = 0; net < amount; net++) {
                if ((set >> net & 1) != 0) {
                    all |= rows[net];
                }
            }
            return all;
        }

        int leastRule(int net) {
            return Integer.numberOfTrailingZeros(guesses[net]);
        }

        int caseCount() {
            int all = 1;
            for (int net = 0; net < amount; net++) {
                all *= Integer.bitCount(guesses[net]);
            }
            return all;
        }

        int surelyGuessed() {
            int all = 0;
            for (int net = 0; net < amount; net++) {
                if (Integer.bitCount(guesses[net]) == 1) {
                    all++;
                }
            }
            return all;
        }

        int allAskers() {
            int all = 0;
            for (int net = 0; net < amount; net++) {
                all += asking[net];
            }
            return all;
        }

        /** Askers of the nets that come elsewhere in one outcome than in the other. */
        int askersUnlike(int one, int other) {
            int all = 0;
            for (int net = 0; net < amount; net++) {
                if (((one ^ other) >> 3 * net & 7) != 0) {
                    all += asking[net];
                }
            }
            return all;
        }
    }

    /** What stays with a site whatever it says. */
    private static final class Sites {
        static final int NOT_TOLD = -1;

        final int[] homes = new int[MOST_SITES];
        final int[] rooms = new int[MOST_SITES];
        final int[] aims = new int[MOST_SITES];
        final int[] lates = new int[MOST_NETS * MOST_SITES];

        Sites() {
            Arrays.fill(aims, NOT_TOLD);
        }
    }

    /** What all sites say, and which of them are up: as it is now, as it was at a trial, or as it might be. */
    private static final class Words {
        int amount;
        final int[] kinds = new int[MOST_SITES];
        final int[] holds = new int[MOST_SITES];
        final boolean[] nears = new boolean[MOST_SITES];
        final boolean[] ups = new boolean[MOST_SITES];

        boolean has(int site) {
            return site >= 0 && site < amount;
        }

        int add() {
            ups[amount] = true;
            amount++;
            return amount - 1;
        }

        boolean isSaid(int site) {
            return site < amount && ups[site] && kinds[site] != SILENT;
        }

        int upCount() {
            int all = 0;
            for (int site = 0; site < amount; site++) {
                if (ups[site]) {
                    all++;
                }
            }
            return all;
        }

        void copy(Words other) {
            amount = other.amount;
            for (int site = 0; site < MOST_SITES; site++) {
                kinds[site] = other.kinds[site];
                holds[site] = other.holds[site];
                nears[site] = other.nears[site];
                ups[site] = other.ups[site];
            }
        }
    }

    /**
     * Words passed on from net to net till they rest.
     * A word that a net has is one number, so that rounds make no objects and words are compared at once:
     * bits 0 to 39 its way, four bits a net (number and 1) from that net back to the home; bits 40 to 43 its site
     * and 1; bits 44 to 47 its names; from bit 48 on the set of the nets that it passed. 0 is no word.
     */
    private static final class Flow {
        private static final long WAY = (1L << 40) - 1;
        private static final int SITE_AT = 40;
        private static final int NAMES_AT = 44;
        private static final int PASSED_AT = 48;
        private static final int MOST_OFFERS = MOST_NETS + MOST_SITES;
        private static final int PAY = 1, NAMES = 2, FROM = 3;
        /** By which things each rule chooses, one after another. */
        private static final int[] THINGS = {PAY, NAMES, FROM, PAY, NAMES, FROM, NAMES, PAY, FROM, PAY, FROM, NAMES};

        final Nets nets;
        final Sites sites;
        final int[] rules = new int[MOST_NETS];
        final long[] chosen = new long[MOST_NETS];
        final long[] fresh = new long[MOST_NETS];
        int heard;
        final long[] offers = new long[MOST_OFFERS];
        final int[] ranks = new int[MOST_OFFERS];

        Flow(Nets nets, Sites sites) {
            this.nets = nets;
            this.sites = sites;
        }

        static long ofSite(int site, int kind, int net) {
            return net + 1L | site + 1L << SITE_AT | kind + 1L << NAMES_AT | 1L << PASSED_AT + net;
        }

        static long passedOn(long word, int net) {
            long longer = word + (1L << NAMES_AT);
            return longer & ~WAY | (word & WAY) << 4 | net + 1L | 1L << PASSED_AT + net;
        }

        static int siteOf(long word) {
            return (int) (word >>> SITE_AT & 15) - 1;
        }

        static int namesOf(long word) {
            return (int) (word >>> NAMES_AT & 15);
        }

        static int passedAt(long word, int i) {
            if (i < 0 || i >= MOST_NETS) {
                return NONE;
            }
            int net = (int) (word >>> 4 * i & 15) - 1;
            return net < 0 ? NONE : net;
        }

        void takeLeastRules() {
            for (int net = 0; net < nets.amount; net++) {
                rules[net] = nets.leastRule(net);
            }
        }

        /** How many rounds changed something till it rests; NONE: it does not. */
        int settle(Words said) {
            Arrays.fill(chosen, 0L);
            int looking = nets.everyone();
            for (int round = 0; round <= MOST_ROUNDS; round++) {
                for (int net = 0; net < nets.amount; net++) {
                    if ((looking >> net & 1) != 0) {
                        hear(said, net);
                        fresh[net] = pick(net);
                    }
                }
                int changed = takeFresh(looking);
                if (changed == 0) {
                    return round;
                }
                // only those that have a tie with a changed one can hear anything new
                looking = nets.union(nets.joined, changed);
            }
            return NONE;
        }

        /** Once all have chosen, the others may hear of it. */
        private int takeFresh(int looking) {
            int changed = 0;
            for (int net = 0; net < nets.amount; net++) {
                if ((looking >> net & 1) != 0 && fresh[net] != chosen[net]) {
                    chosen[net] = fresh[net];
                    changed |= 1 << net;
                }
            }
            return changed;
        }

        /** Gathers all words that come to a net. */
        void hear(Words said, int net) {
            heard = 0;
            for (int site = 0; site < said.amount; site++) {
                if (sites.homes[site] == net && said.isSaid(site)) {
                    offers[heard] = ofSite(site, said.kinds[site], net);
                    heard++;
                }
            }
            for (int other = 0; other < nets.amount; other++) {
                if ((nets.joined[net] >> other & 1) != 0 && passesOn(said, other, net)) {
                    offers[heard] = passedOn(chosen[other], net);
                    heard++;
                }
            }
        }

        private boolean passesOn(Words said, int from, int to) {
            long word = chosen[from];
            if (word == 0 || (word >>> PASSED_AT + to & 1) != 0) {
                return false;
            }
            int site = siteOf(word);
            if (site < 0 || (said.holds[site] >> to & 1) != 0) {
                return false;
            }
            int source = passedAt(word, 1);
            if (source == NONE) {
                return true;
            }
            boolean paid = nets.bond(from, source) == BUYER || nets.bond(from, to) == BUYER;
            return paid && !said.nears[site];
        }

        /** Of the words heard the one that a net's rule takes. */
        private long pick(int net) {
            if (heard == 0) {
                return 0;
            }
            int least = 0;
            for (int i = 0; i < heard; i++) {
                ranks[i] = rank(net, offers[i]);
                if (ranks[i] < ranks[least]) {
                    least = i;
                }
            }
            return offers[least];
        }

        /** Three things by five bits each, the one that a net's rule looks at first on top. */
        private int rank(int net, long word) {
            int source = passedAt(word, 1);
            int names = namesOf(word);
            int pay = 0;
            int from = siteOf(word);
            if (source != NONE) {
                pay = nets.bond(net, source) - BUYER;
                from = MOST_SITES + (rules[net] == 1 ? MOST_NETS - 1 - source : source);
            }
            switch (rules[net]) {
                case 2:
                    return names << 10 | pay << 5 | from;
                case 3:
                    return pay << 10 | from << 5 | names;
                default:
                    return pay << 10 | names << 5 | from;
            }
        }

        /** The thing by which one of the words heard was left; 0: it came alone; NONE: none came. */
        int needed(int net) {
            if (heard < 2) {
                return heard == 0 ? NONE : 0;
            }
            int least = rank(net, pick(net));
            for (int thing = 0; thing < 2; thing++) {
                if (alike(least, 10 - 5 * thing) == 1) {
                    return THINGS[rules[net] * 3 + thing];
                }
            }
            return THINGS[rules[net] * 3 + 2];
        }

        private int alike(int least, int lower) {
            int all = 0;
            for (int i = 0; i < heard; i++) {
                if (ranks[i] >> lower == least >> lower) {
                    all++;
                }
            }
            return all;
        }

        int comesTo(int net) {
            return chosen[net] == 0 ? NONE : siteOf(chosen[net]);
        }

        /** To which sites all nets come, three bits a net. */
        int outcome() {
            int all = 0;
            for (int net = 0; net < nets.amount; net++) {
                all |= siteOf(chosen[net]) + 1 << 3 * net;
            }
            return all;
        }
    }

    /**
     * Excess and sum of all that the sites might say, each measured once.
     * A site that is fallen says as little as a silent one: both are measured as one.
     */
    private static final class Chart {
        private static final int MOST_PICKS = 625;
        private static final int NOT_MEASURED = -1;

        final Nets nets;
        final Sites sites;
        final Words now;
        final Flow flow;
        final Words thought = new Words();
        final int[] loads = new int[MOST_SITES];
        final int[] excesses = new int[MOST_PICKS];
        final int[] sums = new int[MOST_PICKS];
        final int[] picked = new int[MOST_SITES];
        final int[] bestKinds = new int[MOST_SITES];
        int bestExcess;
        int bestTotal;
        int greatestExcess;
        int greatestSum;
        boolean stale = true;

        Chart(Nets nets, Sites sites, Words now, Flow flow) {
            this.nets = nets;
            this.sites = sites;
            this.now = now;
            this.flow = flow;
        }

        void forget() {
            stale = true;
        }

        void pickNow() {
            for (int site = 0; site < MOST_SITES; site++) {
                picked[site] = now.isSaid(site) ? now.kinds[site] : SILENT;
            }
        }

        private void pickFirst() {
            for (int site = 0; site < MOST_SITES; site++) {
                picked[site] = now.has(site) && now.ups[site] ? 0 : SILENT;
            }
        }

        /** The next pick, the last site's kind the fastest; false: there is none. */
        private boolean pickNext() {
            for (int site = now.amount - 1; site >= 0; site--) {
                if (now.ups[site] && picked[site] < SILENT) {
                    picked[site]++;
                    return true;
                }
                picked[site] = now.ups[site] ? 0 : SILENT;
            }
            return false;
        }

        private int place() {
            int at = 0;
            for (int site = 0; site < MOST_SITES; site++) {
                at = at * (SILENT + 1) + picked[site];
            }
            return at;
        }

        /** The place at which excess (NONE: no rest) and sum of what is picked stand. */
        int measure() {
            if (stale) {
                Arrays.fill(excesses, NOT_MEASURED);
                stale = false;
            }
            int at = place();
            if (excesses[at] == NOT_MEASURED) {
                thought.copy(now);
                System.arraycopy(picked, 0, thought.kinds, 0, MOST_SITES);
                flow.takeLeastRules();
                if (flow.settle(thought) == NONE) {
                    excesses[at] = NONE;
                } else {
                    weighRest(at);
                }
            }
            return at;
        }

        private void weighRest(int at) {
            Arrays.fill(loads, 0);
            int sum = 0;
            for (int net = 0; net < nets.amount; net++) {
                int site = flow.comesTo(net);
                if (site == NONE) {
                    sum += nets.asking[net] * LATE_OF_NONE;
                } else {
                    sum += nets.asking[net] * sites.lates[net * MOST_SITES + site];
                    loads[site] += nets.asking[net];
                }
            }
            int excess = 0;
            for (int site = 0; site < now.amount; site++) {
                excess += Math.max(0, loads[site] - sites.rooms[site]);
            }
            excesses[at] = excess;
            sums[at] = sum;
        }

        void measureAll() {
            pickFirst();
            boolean more = true;
            for (int i = 0; i < MOST_PICKS && more; i++) {
                measure();
                more = pickNext();
            }
        }

        /** Finds the best choice among all picks, which have been measured. */
        void seek(boolean safe) {
            bestExcess = NONE;
            bestTotal = NONE;
            pickFirst();
            boolean more = true;
            for (int i = 0; i < MOST_PICKS && more; i++) {
                boolean rests = weighPick(safe);
                if (rests && (bestExcess == NONE || isBetter())) {
                    bestExcess = greatestExcess;
                    bestTotal = greatestSum;
                    System.arraycopy(picked, 0, bestKinds, 0, MOST_SITES);
                }
                more = pickNext();
            }
        }

        private boolean isBetter() {
            return greatestExcess < bestExcess || greatestExcess == bestExcess && greatestSum < bestTotal;
        }

        /** The pick as it is and, if it is to be safe, with each site fallen; false: one of these has no rest. */
        private boolean weighPick(boolean safe) {
            greatestExcess = 0;
            greatestSum = 0;
            boolean rests = weighPlace(place());
            for (int site = 0; site < now.amount && safe && rests; site++) {
                int kind = picked[site];
                picked[site] = SILENT;
                rests = weighPlace(place());
                picked[site] = kind;
            }
            return rests;
        }

        private boolean weighPlace(int at) {
            greatestExcess = Math.max(greatestExcess, excesses[at]);
            greatestSum = Math.max(greatestSum, sums[at]);
            return excesses[at] != NONE;
        }
    }

    /** Steps from the kinds as they are to those aimed at. */
    private static final class Order {
        private static final int MOST_SETS = 16;

        final Sites sites;
        final Words now;
        final Chart chart;
        /** Of each set of sites that have changed: the excess then, and the least worst of what is still to come. */
        final int[] behind = new int[MOST_SETS];
        final int[] still = new int[MOST_SETS];
        final int[] row = new int[MOST_SITES];
        int length;
        int worst;

        Order(Sites sites, Words now, Chart chart) {
            this.sites = sites;
            this.now = now;
            this.chart = chart;
        }

        int aimOf(int site) {
            return sites.aims[site] == Sites.NOT_TOLD ? now.kinds[site] : sites.aims[site];
        }

        int toChange() {
            int set = 0;
            for (int site = 0; site < now.amount; site++) {
                if (aimOf(site) != now.kinds[site]) {
                    set |= 1 << site;
                }
            }
            return set;
        }

        void plan() {
            int all = toChange();
            // greater sets first: a set's worst is made of those of the sets one step on
            for (int done = all; done >= 0; done--) {
                if ((done & ~all) == 0) {
                    pickBehind(done);
                    int excess = chart.excesses[chart.measure()];
                    behind[done] = excess == NONE ? WORST_WITHOUT_REST : excess;
                    still[done] = leastWorst(done, all);
                }
            }
            worst = still[0];
            length = 0;
            int done = 0;
            for (int i = 0; i < MOST_SITES && done != all; i++) {
                row[i] = firstStep(done, all);
                done |= 1 << row[i];
                length++;
            }
        }

        private void pickBehind(int done) {
            chart.pickNow();
            for (int site = 0; site < now.amount; site++) {
                if ((done >> site & 1) != 0 && now.ups[site]) {
                    chart.picked[site] = aimOf(site);
                }
            }
        }

        private int leastWorst(int done, int all) {
            int least = done == all ? 0 : WORST_WITHOUT_REST;
            for (int site = 0; site < now.amount; site++) {
                if (((all & ~done) >> site & 1) != 0) {
                    least = Math.min(least, worstBy(done | 1 << site));
                }
            }
            return least;
        }

        private int worstBy(int done) {
            return Math.max(behind[done], still[done]);
        }

        /** The least site by which the worst of the whole order stays the least that it can be. */
        private int firstStep(int done, int all) {
            int first = 0;
            for (int site = now.amount - 1; site >= 0; site--) {
                if (((all & ~done) >> site & 1) != 0 && worstBy(done | 1 << site) <= worst) {
                    first = site;
                }
            }
            return first;
        }
    }

    /** What was said at a trial, and what was seen of it. */
    private static final class Trial {
        final Words said = new Words();
        final int[] seen = new int[MOST_NETS];

        Trial() {
            Arrays.fill(seen, NOTHING_SEEN);
        }

        boolean isSeen() {
            for (int net = 0; net < MOST_NETS; net++) {
                if (seen[net] != NOTHING_SEEN) {
                    return true;
                }
            }
            return false;
        }

        /** Whether all nets come as was seen in a flow that rests. */
        boolean isAsSeen(Flow flow) {
            for (int net = 0; net < MOST_NETS; net++) {
                if (seen[net] != NOTHING_SEEN && seen[net] != flow.comesTo(net)) {
                    return false;
                }
            }
            return true;
        }
    }

    /** All ways in which the rules might be as they are guessed, and the trials that cut them. */
    private static final class Cases {
        private static final int NO_REST = -1;

        final Nets nets;
        final Words now;
        final Flow flow;
        final Words thought = new Words();
        final Trial[] trials = new Trial[MOST_TRIALS];
        int trialCount;
        /** The cases that agree, two bits for the rule of each net. */
        final int[] left = new int[MOST_CASES];
        int agreeing;
        int quarrelAt;
        /** The outcomes of cases that are unlike, and how many cases have each. */
        final int[] outcomes = new int[MOST_CASES];
        final int[] alikes = new int[MOST_CASES];
        int unlike;
        int nextSite;
        int nextKind;
        int leastAlike;
        boolean stale = true;
        boolean sought;

        Cases(Nets nets, Words now, Flow flow) {
            this.nets = nets;
            this.now = now;
            this.flow = flow;
            for (int i = 0; i < MOST_TRIALS; i++) {
                trials[i] = new Trial();
            }
        }

        void forget() {
            stale = true;
            sought = false;
        }

        int keepTrial() {
            trials[trialCount].said.copy(now);
            trialCount++;
            return trialCount - 1;
        }

        /** Finds the cases that agree; false: there are too many cases. */
        boolean sift() {
            if (nets.caseCount() > MOST_CASES) {
                return false;
            }
            if (!stale) {
                return true;
            }
            stale = false;
            agreeing = 0;
            quarrelAt = NONE;
            flow.takeLeastRules();
            boolean more = true;
            for (int i = 0; i < MOST_CASES && more; i++) {
                int at = firstQuarrel();
                if (at == NONE) {
                    left[agreeing] = packedRules();
                    agreeing++;
                }
                quarrelAt = Math.max(quarrelAt, at);
                more = takeNextRules();
            }
            if (agreeing > 0) {
                quarrelAt = NONE;
            }
            return true;
        }

        /** The rules of the next case; false: there is none. */
        private boolean takeNextRules() {
            for (int net = 0; net < nets.amount; net++) {
                int greater = nets.guesses[net] >> flow.rules[net] + 1;
                if (greater != 0) {
                    flow.rules[net] += 1 + Integer.numberOfTrailingZeros(greater);
                    return true;
                }
                flow.rules[net] = nets.leastRule(net);
            }
            return false;
        }

        /** The first trial with which the case at hand does not agree. */
        private int firstQuarrel() {
            for (int i = 0; i < trialCount; i++) {
                Trial trial = trials[i];
                if (trial.isSeen() && (flow.settle(trial.said) == NONE || !trial.isAsSeen(flow))) {
                    return i;
                }
            }
            return NONE;
        }

        private int packedRules() {
            int all = 0;
            for (int net = 0; net < nets.amount; net++) {
                all |= flow.rules[net] << 2 * net;
            }
            return all;
        }

        private void takeRules(int packed) {
            for (int net = 0; net < nets.amount; net++) {
                flow.rules[net] = packed >> 2 * net & 3;
            }
        }

        int rulesOf(int net) {
            int set = 0;
            for (int i = 0; i < agreeing; i++) {
                set |= 1 << (left[i] >> 2 * net & 3);
            }
            return set;
        }

        int sitesOf(int net) {
            int set = 0;
            for (int i = 0; i < agreeing; i++) {
                takeRules(left[i]);
                boolean rests = flow.settle(now) != NONE;
                int site = flow.comesTo(net);
                set |= rests && site != NONE ? 1 << site : BIT_OF_NONE;
            }
            return set;
        }

        /** Finds the next trial; at least two cases agree, and a site is up. */
        void seekTrial() {
            if (sought) {
                return;
            }
            sought = true;
            leastAlike = agreeing + 1;
            for (int site = 0; site < now.amount; site++) {
                for (int kind = 0; kind <= SILENT && now.ups[site]; kind++) {
                    int alike = kind == now.kinds[site] ? leastAlike : greatestAlike(site, kind);
                    if (alike < leastAlike) {
                        leastAlike = alike;
                        nextSite = site;
                        nextKind = kind;
                    }
                }
            }
        }

        /** How many cases are alike at the most; it ends early where that is no less than the least so far. */
        private int greatestAlike(int site, int kind) {
            thought.copy(now);
            thought.kinds[site] = kind;
            unlike = 0;
            int greatest = 0;
            for (int i = 0; i < agreeing && greatest < leastAlike; i++) {
                takeRules(left[i]);
                int outcome = flow.settle(thought) == NONE ? NO_REST : flow.outcome();
                greatest = Math.max(greatest, countAlike(outcome));
            }
            return greatest;
        }

        /** How often an outcome has come, with this time. */
        private int countAlike(int outcome) {
            for (int i = 0; i < unlike; i++) {
                if (outcomes[i] == outcome) {
                    alikes[i]++;
                    return alikes[i];
                }
            }
            outcomes[unlike] = outcome;
            alikes[unlike] = 1;
            unlike++;
            return 1;
        }
    }
}
