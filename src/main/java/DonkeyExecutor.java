import java.util.Arrays;

/**
 * A will that is carried out by the dead man's donkey: heirs and the round are typed as texts, and every
 * question about the round is answered by walking it. No call makes an object: all rows are made with the object.
 */
public final class DonkeyExecutor {
    public static final int NONE = -1, BAD = -2, NOT = -3, FULL = -4;

    private static final int HEIR_LIMIT = 8;
    private static final int STOP_LIMIT = 20;
    private static final int FLY_LIMIT = 6;
    private static final int FLY_SETS = 1 << FLY_LIMIT;
    private static final int SEEN_LIMIT = 8;
    private static final int SHEET_LIMIT = 4;
    private static final int ITEM_LIMIT = 60;
    private static final int FORM_LIMIT = 3;
    private static final int FIGURES = 10;

    private static final int HEIR_TEXT = 0, ROUND_TEXT = 1;
    private static final int HEIR_BYTES = 31;
    /** An heir's three signs and the ; behind them. */
    private static final int HEIR_WIDTH = 4;

    private static final int KIN = 0, MAID = 1, STRANGER = 2;
    private static final int PASSES_BY = 0, KICKS = 1, GOES_BACK = 2, STAYS = 3, BRAYS = 4;
    private static final int DEEDS = 5;

    private static final int HUNGER = 0, FEAR = 1, GRIEF = 2, BAR = 3;
    private static final int[] TEMPER_AT_FIRST = {5, 3, 4, 9};
    private static final int[] TEMPER_MOST = {9, 9, 19, 9};
    private static final int MOST_HUNGER = 9;
    private static final int MOST_GAIN = 9;
    /** Twice the most that is gained without eating. */
    private static final int MOST_OF_A_VISIT = 2 * MOST_GAIN;
    private static final int BRAY_PULL = 9;

    private static final int SIXTEENTHS = 16;
    private static final int NULL = 1, INDEX = 2, CAST = 3, STORE = 4, SIZE = 5;
    private static final int LEAST_INT = 1 << 31;
    private static final long LEAST_LONG = 1L << 63;

    private final Script heirText = new Script(HEIR_BYTES);
    private final Script roundText = new Script(STOP_LIMIT);
    private final Given given = new Given();
    private final Story story = new Story();
    private final Trial trial = new Trial();
    private final Flies flies = new Flies();
    private final Witness witness = new Witness();
    private final FairRound fairRound = new FairRound();
    private final int[] richestBySet = new int[FLY_SETS];
    private final int[] tally = new int[STOP_LIMIT * DEEDS];
    private final Sheet[] sheets = new Sheet[SHEET_LIMIT];
    private boolean fairKnown = false;
    private boolean richestKnown = false;
    private int finding = 0;

    public DonkeyExecutor() {
        for (int s = 0; s < SHEET_LIMIT; s++) {
            sheets[s] = new Sheet();
        }
        System.arraycopy(TEMPER_AT_FIRST, 0, given.temper, 0, TEMPER_AT_FIRST.length);
    }

    // ---- heirs, the round, the donkey, flies

    public int type(int text, int b) {
        if (!isText(text) || !within(b, 255)) {
            return BAD;
        }
        Script script = scriptOf(text);
        if (script.isFull()) {
            return FULL;
        }
        script.append(b);
        takeText(text);
        return script.size;
    }

    public int wipe(int text) {
        if (!isText(text)) {
            return BAD;
        }
        Script script = scriptOf(text);
        int had = script.size;
        script.size = 0;
        takeText(text);
        return had;
    }

    public int undo(int text) {
        if (!isText(text)) {
            return BAD;
        }
        Script script = scriptOf(text);
        if (script.size <= 0) {
            return NOT;
        }
        script.size--;
        takeText(text);
        return script.size;
    }

    public int fault(int text) {
        if (!isText(text)) {
            return BAD;
        }
        return text == HEIR_TEXT ? heirText.faultAsHeirs() : roundText.faultAsRound();
    }

    public int heir(int heir, int what) {
        if (!isHeir(heir)) {
            return BAD;
        }
        switch (what) {
            case 0:
                return given.sort[heir];
            case 1:
                return given.kind[heir];
            case 2:
                return given.lure[heir];
            default:
                return BAD;
        }
    }

    public int round(int stop) {
        if (!within(stop, STOP_LIMIT - 1)) {
            return BAD;
        }
        return stop < given.stops ? given.route[stop] : NONE;
    }

    public int set(int what, int v) {
        if (!within(what, TEMPER_MOST.length - 1) || !within(v, TEMPER_MOST[what])) {
            return BAD;
        }
        int was = given.temper[what];
        given.temper[what] = v;
        retell();
        return was;
    }

    public int fly(int stop) {
        if (!within(stop, STOP_LIMIT - 1)) {
            return BAD;
        }
        if (flies.size >= FLY_LIMIT) {
            return FULL;
        }
        flies.append(stop);
        takeFlies();
        return flies.size;
    }

    public int back() {
        if (flies.size <= 0) {
            return NOT;
        }
        flies.size--;
        takeFlies();
        return flies.size;
    }

    public int read(int s) {
        if (!isSheet(s)) {
            return BAD;
        }
        Sheet sheet = sheets[s];
        if (sheet.lost) {
            return found(NULL);
        }
        int before = flies.size;
        for (int i = 0; i < sheet.size && mayFly(sheet.items[i]); i++) {
            flies.append(sheet.items[i]);
        }
        takeFlies();
        return flies.size - before;
    }

    // ---- stops

    public int does(int stop, int what) {
        if (stop < 0 || stop >= given.stops) {
            return BAD;
        }
        switch (what) {
            case 0:
                return story.did[stop];
            case 1:
                return story.ate[stop];
            case 2:
                return story.hunger[stop];
            case 3:
                return story.pull[stop];
            default:
                return BAD;
        }
    }

    public int share(int stops, int heir, int what) {
        if (!within(stops, given.stops) || !isHeir(heir)) {
            return BAD;
        }
        int place = stops * HEIR_LIMIT + heir;
        switch (what) {
            case 0:
                return story.shares[place];
            case 1:
                return story.fields[place];
            case 2:
                return story.left[place];
            default:
                return BAD;
        }
    }

    public int out() {
        return story.walk.out;
    }

    public int estate() {
        return story.walk.allShares();
    }

    public int richest() {
        return story.walk.richestHeir();
    }

    public int longest() {
        return story.longest;
    }

    public int ditch() {
        return story.walk.ditch;
    }

    // ---- plans

    public int bait(int heir) {
        if (!isHeir(heir)) {
            return BAD;
        }
        trial.prepare(given);
        for (int lure = 0; lure < FIGURES; lure++) {
            trial.given.lure[heir] = lure;
            trial.run();
            if (trial.walk.hasMost(heir)) {
                return lure;
            }
        }
        return NONE;
    }

    public int fair(int what) {
        if (!within(what, HEIR_LIMIT)) {
            return BAD;
        }
        if (given.heirs == 0 || what > given.heirs) {
            return NONE;
        }
        if (!fairKnown) {
            fairRound.find(given);
            fairKnown = true;
        }
        return what == 0 ? fairRound.best : fairRound.bestRow[what - 1];
    }

    public int care(int heir) {
        if (!isHeir(heir)) {
            return BAD;
        }
        trial.prepare(given);
        for (int kind = 0; kind < FIGURES; kind++) {
            trial.given.kind[heir] = kind;
            trial.run();
            if (!trial.walk.isOut(heir)) {
                return kind;
            }
        }
        return NONE;
    }

    public int skip(int heir, int what) {
        if (!isHeir(heir) || !within(what, 1)) {
            return BAD;
        }
        trial.prepare(given);
        int which = NONE;
        int most = NONE;
        for (int other = 0; other < given.heirs; other++) {
            if (other != heir) {
                trial.given.skipped = other;
                trial.run();
                if (trial.walk.share[heir] > most) {
                    most = trial.walk.share[heir];
                    which = other;
                }
            }
        }
        return what == 0 ? which : most;
    }

    // ---- seen, chance, other rounds

    public int seen(int stop, int did) {
        if (!within(stop, STOP_LIMIT - 1) || !within(did, DEEDS - 1)) {
            return BAD;
        }
        if (witness.size >= SEEN_LIMIT) {
            return FULL;
        }
        witness.append(stop, did);
        return witness.size;
    }

    public int forget() {
        int had = witness.size;
        witness.size = 0;
        return had;
    }

    public int never() {
        trial.prepare(given);
        int bits = 0;
        for (int i = 0; i < flies.size; i++) {
            trial.given.flyStops = flies.stopsWithout(i);
            trial.run();
            if (witness.agrees(trial)) {
                bits |= 1 << i;
            }
        }
        return bits;
    }

    public int was(int heir, int what) {
        if (!isHeir(heir) || !within(what, 1)) {
            return BAD;
        }
        trial.prepare(given);
        int[] figures = what == 0 ? trial.given.lure : trial.given.kind;
        int bits = 0;
        for (int figure = 0; figure < FIGURES; figure++) {
            figures[heir] = figure;
            trial.run();
            if (witness.agrees(trial)) {
                bits |= 1 << figure;
            }
        }
        return bits;
    }

    public int ask(int heir) {
        if (!isHeir(heir)) {
            return BAD;
        }
        Arrays.fill(tally, 0);
        trial.prepare(given);
        for (int lure = 0; lure < FIGURES; lure++) {
            trial.given.lure[heir] = lure;
            trial.run();
            if (witness.agrees(trial)) {
                tallyTrial();
            }
        }
        int best = NONE;
        int least = FIGURES + 1;
        for (int stop = 0; stop < given.stops; stop++) {
            int most = mostAlike(stop);
            if (most < least) {
                least = most;
                best = stop;
            }
        }
        return best;
    }

    public long swarm(int c, int heir, int what) {
        if (!within(c, SIXTEENTHS) || !isHeir(heir) || !within(what, 1)) {
            return LEAST_LONG - BAD;
        }
        tellRichestBySet();
        long above = 0;
        for (int set = 0; set < (1 << flies.size); set++) {
            if (richestBySet[set] == heir) {
                above += weightOf(set, c);
            }
        }
        // 16 is a power of two, so halving both is all that lowest terms can need
        int halvings = 4 * flies.size;
        while (halvings > 0 && above % 2 == 0) {
            above /= 2;
            halvings--;
        }
        return what == 0 ? above : 1L << halvings;
    }

    public int again(int seed, int n, int what) {
        if (n < 1 || n > STOP_LIMIT || !within(what, 1)) {
            return BAD;
        }
        trial.prepare(given);
        trial.given.drawRound(seed, n);
        trial.run();
        return what == 0 ? trial.walk.allShares() : trial.walk.kicks;
    }

    // ---- sheets

    public int sheet(int s, int form, int n) {
        if (!isSheet(s) || !isForm(form) || n > ITEM_LIMIT) {
            return BAD;
        }
        if (n < 0) {
            return found(SIZE);
        }
        sheets[s].renew(form, n);
        return n;
    }

    public int lose(int s) {
        if (!isSheet(s)) {
            return BAD;
        }
        if (sheets[s].lost) {
            return found(NULL);
        }
        sheets[s].lost = true;
        return sheets[s].size;
    }

    public int put(int s, int form, int i, int v) {
        if (!isSheet(s) || !isForm(form)) {
            return BAD;
        }
        int fault = sheets[s].faultOf(form, i);
        if (fault != 0) {
            return found(fault);
        }
        sheets[s].store(i, v);
        return 1;
    }

    public int get(int s, int form, int i) {
        if (!isSheet(s) || !isForm(form)) {
            return LEAST_INT;
        }
        int fault = sheets[s].faultOf(form, i);
        if (fault != 0) {
            finding = fault;
            return LEAST_INT;
        }
        return sheets[s].items[i];
    }

    public int copy(int s, int i, int t, int j, int n) {
        if (!isSheet(s) || !isSheet(t)) {
            return BAD;
        }
        Sheet source = sheets[s];
        Sheet target = sheets[t];
        if (source.lost || target.lost) {
            return found(NULL);
        }
        if (source.form != target.form) {
            return found(STORE);
        }
        if (!source.hasRange(i, n) || !target.hasRange(j, n)) {
            return found(INDEX);
        }
        System.arraycopy(source.items, i, target.items, j, n);
        return 1;
    }

    public int write(int stops, int s) {
        if (!within(stops, given.stops) || !isSheet(s)) {
            return BAD;
        }
        Sheet sheet = sheets[s];
        if (sheet.lost) {
            return found(NULL);
        }
        int written = Math.min(sheet.size, given.heirs);
        for (int heir = 0; heir < written; heir++) {
            sheet.store(heir, story.shares[stops * HEIR_LIMIT + heir]);
        }
        return written;
    }

    public int count(int what) {
        switch (what) {
            case 0:
                return given.heirs;
            case 1:
                return given.stops;
            case 2:
                return heirText.size;
            case 3:
                return roundText.size;
            case 4:
                return flies.size;
            case 5:
                return story.walk.kicks;
            case 6:
                return story.walk.allFields();
            case 7:
                return witness.size;
            case 8:
                return finding;
            default:
                return BAD;
        }
    }

    public long digest() {
        long h = 17;
        for (int what = 0; what <= 7; what++) {
            h = mixed(h, count(what));
        }
        h = mixed(h, fault(HEIR_TEXT));
        h = mixed(h, fault(ROUND_TEXT));
        for (int heir = 0; heir < given.heirs; heir++) {
            h = mixHeir(h, heir);
        }
        for (int stop = 0; stop < given.stops; stop++) {
            h = mixStop(h, stop);
        }
        h = mixed(h, out());
        h = mixed(h, estate());
        h = mixed(h, richest());
        h = mixed(h, longest());
        h = mixed(h, ditch());
        for (int what = 0; what <= 3; what++) {
            h = mixed(h, fair(what));
        }
        h = mixed(h, never());
        h = mixed(h, again(7, 15, 0));
        return mixed(h, again(7, 15, 1));
    }

    private long mixHeir(long before, int heir) {
        long h = before;
        for (int what = 0; what <= 2; what++) {
            h = mixed(h, heir(heir, what));
        }
        for (int what = 0; what <= 2; what++) {
            h = mixed(h, share(given.stops, heir, what));
        }
        h = mixed(h, bait(heir));
        h = mixed(h, care(heir));
        h = mixed(h, skip(heir, 0));
        h = mixed(h, skip(heir, 1));
        h = mixed(h, was(heir, 0));
        h = mixed(h, was(heir, 1));
        h = mixed(h, ask(heir));
        h = mixed(h, swarm(5, heir, 0));
        return mixed(h, swarm(5, heir, 1));
    }

    private long mixStop(long before, int stop) {
        long h = mixed(before, round(stop));
        for (int what = 0; what <= 3; what++) {
            h = mixed(h, does(stop, what));
        }
        for (int heir = 0; heir < given.heirs; heir++) {
            h = mixed(h, share(stop, heir, 0));
        }
        return h;
    }

    private static long mixed(long h, long value) {
        return 31 * h + value;
    }

    private static boolean within(int v, int most) {
        return v >= 0 && v <= most;
    }

    private static boolean isText(int text) {
        return text == HEIR_TEXT || text == ROUND_TEXT;
    }

    private static boolean isSheet(int s) {
        return within(s, SHEET_LIMIT - 1);
    }

    private static boolean isForm(int form) {
        return within(form, FORM_LIMIT - 1);
    }

    private boolean isHeir(int heir) {
        return heir >= 0 && heir < given.heirs;
    }

    /** Whether there may be one of FLIES more, at that stop. */
    private boolean mayFly(int stop) {
        return within(stop, STOP_LIMIT - 1) && flies.size < FLY_LIMIT;
    }

    private Script scriptOf(int text) {
        return text == HEIR_TEXT ? heirText : roundText;
    }

    private int found(int number) {
        finding = number;
        return -10 - number;
    }

    private void takeText(int text) {
        if (text == HEIR_TEXT) {
            given.takeHeirs(heirText);
        } else {
            given.takeRound(roundText);
        }
        retell();
    }

    private void takeFlies() {
        given.flyStops = flies.stopsOf(FLY_SETS - 1);
        retell();
    }

    /** The costly answers wait until they are asked for: many calls may change what is given ahead of that. */
    private void retell() {
        story.tell(given);
        fairKnown = false;
        richestKnown = false;
    }

    private void tellRichestBySet() {
        if (richestKnown) {
            return;
        }
        trial.prepare(given);
        for (int set = 0; set < (1 << flies.size); set++) {
            trial.given.flyStops = flies.stopsOf(set);
            trial.run();
            richestBySet[set] = trial.walk.richestHeir();
        }
        richestKnown = true;
    }

    private long weightOf(int set, int c) {
        long weight = 1;
        for (int i = 0; i < flies.size; i++) {
            weight *= ((set >> i) & 1) != 0 ? c : SIXTEENTHS - c;
        }
        return weight;
    }

    private void tallyTrial() {
        for (int stop = 0; stop < given.stops; stop++) {
            tally[stop * DEEDS + trial.did[stop]]++;
        }
    }

    /** By how many of the tallied trials it does the same at that stop, at most. */
    private int mostAlike(int stop) {
        int most = 0;
        for (int did = 0; did < DEEDS; did++) {
            most = Math.max(most, tally[stop * DEEDS + did]);
        }
        return most;
    }

    /** The bytes of a text, well or not. */
    private static final class Script {
        final int[] signs;
        int size = 0;

        Script(int limit) {
            signs = new int[limit];
        }

        boolean isFull() {
            return size >= signs.length;
        }

        void append(int sign) {
            if (!isFull()) {
                signs[size] = sign;
                size++;
            }
        }

        int faultAsHeirs() {
            for (int place = 0; place < size; place++) {
                if (!fitsHeirs(place, signs[place])) {
                    return place;
                }
            }
            return size == 0 || size % HEIR_WIDTH == HEIR_WIDTH - 1 ? NONE : size;
        }

        int faultAsRound() {
            for (int place = 0; place < size; place++) {
                if (signs[place] < 'a' || signs[place] > 'h') {
                    return place;
                }
            }
            return NONE;
        }

        /** Every heir is as wide as any other, so a place alone tells what may stand there. */
        private static boolean fitsHeirs(int place, int sign) {
            switch (place % HEIR_WIDTH) {
                case 0:
                    return place / HEIR_WIDTH < HEIR_LIMIT && (sign == 'k' || sign == 'm' || sign == 's');
                case 3:
                    return sign == ';';
                default:
                    return sign >= '0' && sign <= '9';
            }
        }
    }

    /** All on which a walk depends; plans change a copy of it. */
    private static final class Given {
        final int[] sort = new int[HEIR_LIMIT];
        final int[] kind = new int[HEIR_LIMIT];
        final int[] lure = new int[HEIR_LIMIT];
        final int[] temper = new int[4];
        final int[] route = new int[STOP_LIMIT];
        int heirs = 0;
        int stops = 0;
        /** Bit i: there are flies at stop i. */
        int flyStops = 0;
        /** An heir at which it passes by in any case. */
        int skipped = NONE;

        void takeHeirs(Script text) {
            heirs = text.faultAsHeirs() == NONE ? (text.size + 1) / HEIR_WIDTH : 0;
            for (int heir = 0; heir < heirs; heir++) {
                int place = heir * HEIR_WIDTH;
                sort[heir] = sortOf(text.signs[place]);
                kind[heir] = text.signs[place + 1] - '0';
                lure[heir] = text.signs[place + 2] - '0';
            }
        }

        void takeRound(Script text) {
            stops = text.faultAsRound() == NONE ? text.size : 0;
            for (int stop = 0; stop < stops; stop++) {
                route[stop] = text.signs[stop] - 'a';
            }
        }

        void drawRound(int seed, int n) {
            stops = 0;
            if (heirs <= 0 || n > STOP_LIMIT) {
                return;
            }
            stops = n;
            int lot = seed;
            for (int stop = 0; stop < stops; stop++) {
                lot = 1103515245 * lot + 12345;
                route[stop] = (lot >>> 16) % heirs;
            }
        }

        void copyFrom(Given other) {
            System.arraycopy(other.sort, 0, sort, 0, HEIR_LIMIT);
            System.arraycopy(other.kind, 0, kind, 0, HEIR_LIMIT);
            System.arraycopy(other.lure, 0, lure, 0, HEIR_LIMIT);
            System.arraycopy(other.temper, 0, temper, 0, temper.length);
            System.arraycopy(other.route, 0, route, 0, STOP_LIMIT);
            heirs = other.heirs;
            stops = other.stops;
            flyStops = other.flyStops;
            skipped = other.skipped;
        }

        int dreadAt(int stop, int heir) {
            int dread = temper[FEAR];
            if (((flyStops >> stop) & 1) != 0) {
                dread += 2;
            }
            if (sort[heir] == STRANGER) {
                dread += 2;
            }
            if (sort[heir] == MAID) {
                dread -= 1;
            }
            return dread < 0 ? 0 : dread;
        }

        /** No single visit can bring an heir more than this. */
        int mostGain(int heir) {
            int bite = Math.min(lure[heir], Math.min(MOST_HUNGER, temper[BAR]));
            int gain = Math.min(kind[heir] + bite, MOST_GAIN);
            return bite > 0 ? 2 * gain : gain;
        }

        private static int sortOf(int sign) {
            if (sign == 'm') {
                return MAID;
            }
            return sign == 's' ? STRANGER : KIN;
        }
    }

    /** How things stand behind the stops walked so far, and what the last of them brought. */
    private static final class Walk {
        final int[] share = new int[HEIR_LIMIT];
        final int[] fields = new int[HEIR_LIMIT];
        final int[] left = new int[HEIR_LIMIT];
        int heirs = 0;
        int out = 0;
        int hunger = 0;
        int kicks = 0;
        int ditch = 0;
        int did = PASSES_BY;
        int ate = 0;
        int pull = 0;
        int gain = 0;

        void begin(Given given) {
            Arrays.fill(share, 0);
            Arrays.fill(fields, 0);
            System.arraycopy(given.lure, 0, left, 0, HEIR_LIMIT);
            heirs = given.heirs;
            out = 0;
            hunger = given.temper[HUNGER];
            kicks = 0;
            ditch = 0;
        }

        void copyFrom(Walk other) {
            System.arraycopy(other.share, 0, share, 0, HEIR_LIMIT);
            System.arraycopy(other.fields, 0, fields, 0, HEIR_LIMIT);
            System.arraycopy(other.left, 0, left, 0, HEIR_LIMIT);
            heirs = other.heirs;
            out = other.out;
            hunger = other.hunger;
            kicks = other.kicks;
            ditch = other.ditch;
        }

        void visit(Given given, int stop, int heir) {
            did = PASSES_BY;
            ate = 0;
            pull = 0;
            gain = 0;
            if (heir < heirs && heir != given.skipped && !isOut(heir)) {
                meet(given, stop, heir);
            }
            hunger = Math.min(hunger + 1, MOST_HUNGER);
        }

        private void meet(Given given, int stop, int heir) {
            int bite = Math.min(left[heir], Math.min(hunger, given.temper[BAR]));
            pull = given.kind[heir] + bite;
            if (pull < given.dreadAt(stop, heir)) {
                disinherit(heir);
                return;
            }
            ate = bite;
            hunger -= bite;
            left[heir] -= bite;
            if (pull == given.temper[GRIEF]) {
                halveShares();
            } else {
                bestow(heir);
            }
        }

        private void disinherit(int heir) {
            did = KICKS;
            kicks++;
            ditch += share[heir];
            share[heir] = 0;
            fields[heir] = 0;
            out |= 1 << heir;
        }

        private void halveShares() {
            did = GOES_BACK;
            for (int heir = 0; heir < heirs; heir++) {
                int kept = share[heir] / 2;
                ditch += share[heir] - kept;
                share[heir] = kept;
            }
        }

        private void bestow(int heir) {
            did = STAYS;
            gain = pull < MOST_GAIN ? pull : MOST_GAIN;
            if (ate > 0) {
                gain *= 2;
            }
            share[heir] += gain;
            if (pull >= BRAY_PULL) {
                did = BRAYS;
                fields[heir]++;
            }
        }

        boolean isOut(int heir) {
            return ((out >> heir) & 1) != 0;
        }

        int allShares() {
            int sum = 0;
            for (int heir = 0; heir < heirs; heir++) {
                sum += share[heir];
            }
            return sum;
        }

        int allFields() {
            int sum = 0;
            for (int heir = 0; heir < heirs; heir++) {
                sum += fields[heir];
            }
            return sum;
        }

        int richestHeir() {
            int best = NONE;
            int most = 0;
            for (int heir = 0; heir < heirs; heir++) {
                if (share[heir] > most) {
                    most = share[heir];
                    best = heir;
                }
            }
            return best;
        }

        boolean hasMost(int heir) {
            if (share[heir] <= 0) {
                return false;
            }
            for (int other = 0; other < heirs; other++) {
                if (other != heir && share[other] >= share[heir]) {
                    return false;
                }
            }
            return true;
        }
    }

    /** The round as it is told, kept stop by stop. */
    private static final class Story {
        final Walk walk = new Walk();
        final int[] did = new int[STOP_LIMIT];
        final int[] ate = new int[STOP_LIMIT];
        final int[] hunger = new int[STOP_LIMIT];
        final int[] pull = new int[STOP_LIMIT];
        final int[] shares = new int[(STOP_LIMIT + 1) * HEIR_LIMIT];
        final int[] fields = new int[(STOP_LIMIT + 1) * HEIR_LIMIT];
        final int[] left = new int[(STOP_LIMIT + 1) * HEIR_LIMIT];
        int longest = NONE;

        void tell(Given given) {
            walk.begin(given);
            keep(0);
            longest = NONE;
            int most = 0;
            for (int stop = 0; stop < given.stops; stop++) {
                hunger[stop] = walk.hunger;
                walk.visit(given, stop, given.route[stop]);
                did[stop] = walk.did;
                ate[stop] = walk.ate;
                pull[stop] = walk.pull;
                if (walk.gain > most) {
                    most = walk.gain;
                    longest = stop;
                }
                keep(stop + 1);
            }
        }

        private void keep(int stops) {
            System.arraycopy(walk.share, 0, shares, stops * HEIR_LIMIT, HEIR_LIMIT);
            System.arraycopy(walk.fields, 0, fields, stops * HEIR_LIMIT, HEIR_LIMIT);
            System.arraycopy(walk.left, 0, left, stops * HEIR_LIMIT, HEIR_LIMIT);
        }
    }

    /** A walk by something other than what is told. */
    private static final class Trial {
        final Given given = new Given();
        final Walk walk = new Walk();
        final int[] did = new int[STOP_LIMIT];

        void prepare(Given told) {
            given.copyFrom(told);
        }

        void run() {
            walk.begin(given);
            for (int stop = 0; stop < given.stops; stop++) {
                walk.visit(given, stop, given.route[stop]);
                did[stop] = walk.did;
            }
        }
    }

    /** The stops at which there are flies, in the order in which they came. */
    private static final class Flies {
        final int[] stops = new int[FLY_LIMIT];
        int size = 0;

        void append(int stop) {
            if (size < FLY_LIMIT) {
                stops[size] = stop;
                size++;
            }
        }

        /** The stops of those flies whose bits are in the set, as bits. */
        int stopsOf(int set) {
            int bits = 0;
            for (int i = 0; i < size; i++) {
                if (((set >> i) & 1) != 0) {
                    bits |= 1 << stops[i];
                }
            }
            return bits;
        }

        int stopsWithout(int fly) {
            return stopsOf((FLY_SETS - 1) & ~(1 << fly));
        }
    }

    /** What was seen. */
    private static final class Witness {
        final int[] stops = new int[SEEN_LIMIT];
        final int[] deeds = new int[SEEN_LIMIT];
        int size = 0;

        void append(int stop, int did) {
            if (size < SEEN_LIMIT) {
                stops[size] = stop;
                deeds[size] = did;
                size++;
            }
        }

        boolean agrees(Trial trial) {
            for (int i = 0; i < size; i++) {
                if (stops[i] >= trial.given.stops || trial.did[stops[i]] != deeds[i]) {
                    return false;
                }
            }
            return true;
        }
    }

    /** The search for the fairest row of all heirs, in the rows' own order, so that the first of like ones stays. */
    private static final class FairRound {
        final Walk[] walks = new Walk[HEIR_LIMIT + 1];
        final int[] row = new int[HEIR_LIMIT];
        final int[] bestRow = new int[HEIR_LIMIT];
        int best = NONE;

        FairRound() {
            for (int depth = 0; depth <= HEIR_LIMIT; depth++) {
                walks[depth] = new Walk();
            }
        }

        void find(Given given) {
            best = NONE;
            walks[0].begin(given);
            seek(given, 0, 0);
        }

        private void seek(Given given, int depth, int visited) {
            if (depth >= given.heirs || depth >= HEIR_LIMIT) {
                best = hope(given, walks[depth], visited);
                System.arraycopy(row, 0, bestRow, 0, HEIR_LIMIT);
                return;
            }
            Walk next = walks[depth + 1];
            for (int heir = 0; heir < given.heirs; heir++) {
                if (((visited >> heir) & 1) == 0) {
                    int nowVisited = visited | (1 << heir);
                    row[depth] = heir;
                    next.copyFrom(walks[depth]);
                    next.visit(given, depth, heir);
                    if (hope(given, next, nowVisited) > best) {
                        seek(given, depth + 1, nowVisited);
                    }
                }
            }
        }

        /** The least share can't become more than this: who was visited is not visited again, and gains no more. */
        private static int hope(Given given, Walk walk, int visited) {
            int least = MOST_OF_A_VISIT;
            for (int heir = 0; heir < given.heirs; heir++) {
                boolean wasVisited = ((visited >> heir) & 1) != 0;
                least = Math.min(least, wasVisited ? walk.share[heir] : given.mostGain(heir));
            }
            return least;
        }
    }

    /** A row of numbers; its items are kept cut to what the form can hold. */
    private static final class Sheet {
        final int[] items = new int[ITEM_LIMIT];
        boolean lost = true;
        int form = 0;
        int size = 0;

        void renew(int newForm, int n) {
            lost = false;
            form = newForm;
            size = n;
            Arrays.fill(items, 0);
        }

        /** The number of the finding against item i of that form; 0: there is none. */
        int faultOf(int asForm, int i) {
            if (lost) {
                return NULL;
            }
            if (form != asForm) {
                return CAST;
            }
            return i < 0 || i >= size ? INDEX : 0;
        }

        /** Size less n can't wrap, as a sum of from and n could. */
        boolean hasRange(int from, int n) {
            return from >= 0 && n >= 0 && n <= size && from <= size - n;
        }

        void store(int i, int v) {
            switch (form) {
                case 0:
                    items[i] = (byte) v;
                    break;
                case 1:
                    items[i] = (short) v;
                    break;
                default:
                    items[i] = v;
                    break;
            }
        }
    }
}
