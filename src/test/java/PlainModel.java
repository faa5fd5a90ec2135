import java.math.BigInteger;
import java.util.ArrayList;
import java.util.Arrays;
import java.util.List;
import java.util.regex.Matcher;
import java.util.regex.Pattern;

/**
 * The document once more, as slowly and plainly as can be, with the Java library and without anything kept between
 * calls, so that the class can be held against it. It shares no code with the class.
 */
final class PlainModel {
    static final int NONE = -1, BAD = -2, NOT = -3, FULL = -4;

    record Heir(char sort, int kind, int lure) {}

    /** What one walk brought. */
    static final class Tale {
        final List<Integer> did = new ArrayList<>(), ate = new ArrayList<>(), hunger = new ArrayList<>();
        final List<Integer> pull = new ArrayList<>(), gain = new ArrayList<>();
        final List<int[]> shares = new ArrayList<>(), fields = new ArrayList<>(), lures = new ArrayList<>();
        boolean[] out;
        int kicks, ditch;

        int[] last() {
            return shares.get(shares.size() - 1);
        }

        int estate() {
            return Arrays.stream(last()).sum();
        }

        int richest() {
            int best = NONE;
            for (int h = last().length - 1; h >= 0; h--) {
                if (last()[h] > 0 && (best == NONE || last()[h] >= last()[best])) best = h;
            }
            return best;
        }
    }

    private final StringBuilder[] texts = {new StringBuilder(), new StringBuilder()};
    private final int[] temper = {5, 3, 4, 9};
    private final List<Integer> flies = new ArrayList<>();
    private final List<int[]> seen = new ArrayList<>();
    private final Object[] sheets = new Object[4];
    private int finding = 0;

    // ---- reading the texts

    List<Heir> heirs() {
        List<Heir> list = new ArrayList<>();
        if (fault(0) != NONE) return list;
        Matcher m = Pattern.compile("([kms])([0-9])([0-9])").matcher(texts[0]);
        while (m.find()) list.add(new Heir(m.group(1).charAt(0), Integer.parseInt(m.group(2)), Integer.parseInt(m.group(3))));
        return list;
    }

    List<Integer> route() {
        List<Integer> list = new ArrayList<>();
        if (fault(1) == NONE) texts[1].chars().forEach(c -> list.add(c - 'a'));
        return list;
    }

    // ---- walking

    Tale walk(List<Heir> heirs, List<Integer> route, List<Integer> flyStops, int skipped) {
        Tale t = new Tale();
        int n = heirs.size();
        int[] share = new int[n], field = new int[n], lure = heirs.stream().mapToInt(Heir::lure).toArray();
        t.out = new boolean[n];
        int hunger = temper[0];
        t.shares.add(share.clone());
        t.fields.add(field.clone());
        t.lures.add(lure.clone());
        for (int stop = 0; stop < route.size(); stop++) {
            int h = route.get(stop), did = 0, ate = 0, pull = 0, gain = 0;
            t.hunger.add(hunger);
            if (h < n && !t.out[h] && h != skipped) {
                int would = Math.min(Math.min(lure[h], hunger), temper[3]);
                pull = heirs.get(h).kind() + would;
                int afraid = temper[1] + (flyStops.contains(stop) ? 2 : 0);
                if (heirs.get(h).sort() == 's') afraid += 2;
                if (heirs.get(h).sort() == 'm') afraid = afraid == 0 ? 0 : afraid - 1;
                if (pull < afraid) {
                    did = 1;
                    t.kicks++;
                    t.out[h] = true;
                    t.ditch += share[h];
                    share[h] = field[h] = 0;
                } else {
                    ate = would;
                    hunger -= would;
                    lure[h] -= would;
                    if (pull == temper[2]) {
                        did = 2;
                        for (int o = 0; o < n; o++) {
                            t.ditch += (share[o] + 1) / 2;
                            share[o] = share[o] >> 1;
                        }
                    } else {
                        did = pull > 8 ? 4 : 3;
                        gain = (pull > 9 ? 9 : pull) * (ate > 0 ? 2 : 1);
                        share[h] += gain;
                        if (did == 4) field[h]++;
                    }
                }
            }
            t.did.add(did);
            t.ate.add(ate);
            t.pull.add(pull);
            t.gain.add(gain);
            t.shares.add(share.clone());
            t.fields.add(field.clone());
            t.lures.add(lure.clone());
            if (hunger < 9) hunger++;
        }
        return t;
    }

    Tale told() {
        return walk(heirs(), route(), flies, NONE);
    }

    Tale withHeir(int heir, Heir other) {
        List<Heir> heirs = new ArrayList<>(heirs());
        heirs.set(heir, other);
        return walk(heirs, route(), flies, NONE);
    }

    Tale withLure(int heir, int lure) {
        Heir h = heirs().get(heir);
        return withHeir(heir, new Heir(h.sort(), h.kind(), lure));
    }

    Tale withKind(int heir, int kind) {
        Heir h = heirs().get(heir);
        return withHeir(heir, new Heir(h.sort(), kind, h.lure()));
    }

    // ---- the face

    int type(int text, int b) {
        if (text < 0 || text > 1 || b < 0 || b > 255) return BAD;
        if (texts[text].length() == (text == 0 ? 31 : 20)) return FULL;
        texts[text].append((char) b);
        return texts[text].length();
    }

    int wipe(int text) {
        if (text < 0 || text > 1) return BAD;
        int had = texts[text].length();
        texts[text].setLength(0);
        return had;
    }

    int undo(int text) {
        if (text < 0 || text > 1) return BAD;
        if (texts[text].length() == 0) return NOT;
        texts[text].setLength(texts[text].length() - 1);
        return texts[text].length();
    }

    int fault(int text) {
        if (text < 0 || text > 1) return BAD;
        String all = texts[text].toString();
        if (all.isEmpty()) return NONE;
        String begun = text == 0 ? "([kms][0-9][0-9];)*([kms]([0-9][0-9]?)?)?" : "[a-h]*";
        String ended = text == 0 ? "[kms][0-9][0-9](;[kms][0-9][0-9]){0,7}" : "[a-h]*";
        for (int n = 1; n <= all.length(); n++) {
            if (!Pattern.compile(begun, Pattern.DOTALL).matcher(all.substring(0, n)).matches()) return n - 1;
        }
        return Pattern.matches(ended, all) ? NONE : all.length();
    }

    int heir(int heir, int what) {
        List<Heir> heirs = heirs();
        if (heir < 0 || heir >= heirs.size() || what < 0 || what > 2) return BAD;
        Heir h = heirs.get(heir);
        return what == 0 ? "kms".indexOf(h.sort()) : what == 1 ? h.kind() : h.lure();
    }

    int round(int stop) {
        if (stop < 0 || stop > 19) return BAD;
        return stop < route().size() ? route().get(stop) : NONE;
    }

    int set(int what, int v) {
        if (what < 0 || what > 3 || v < 0 || v > (what == 2 ? 19 : 9)) return BAD;
        int was = temper[what];
        temper[what] = v;
        return was;
    }

    int fly(int stop) {
        if (stop < 0 || stop > 19) return BAD;
        if (flies.size() == 6) return FULL;
        flies.add(stop);
        return flies.size();
    }

    int back() {
        if (flies.isEmpty()) return NOT;
        flies.remove(flies.size() - 1);
        return flies.size();
    }

    int read(int s) {
        if (s < 0 || s > 3) return BAD;
        if (sheets[s] == null) return found(1);
        int came = 0;
        for (int i = 0; i < length(sheets[s]); i++) {
            if (fly(item(sheets[s], i)) < 0) break;
            came++;
        }
        return came;
    }

    int does(int stop, int what) {
        if (stop < 0 || stop >= route().size() || what < 0 || what > 3) return BAD;
        Tale t = told();
        return List.of(t.did, t.ate, t.hunger, t.pull).get(what).get(stop);
    }

    int share(int stops, int heir, int what) {
        if (stops < 0 || stops > route().size() || heir < 0 || heir >= heirs().size() || what < 0 || what > 2) return BAD;
        Tale t = told();
        return List.of(t.shares, t.fields, t.lures).get(what).get(stops)[heir];
    }

    int out() {
        int bits = 0;
        Tale t = told();
        for (int h = 0; h < t.out.length; h++) if (t.out[h]) bits += 1 << h;
        return bits;
    }

    int estate() {
        return told().estate();
    }

    int richest() {
        return told().richest();
    }

    int longest() {
        List<Integer> gain = told().gain;
        int most = gain.stream().mapToInt(g -> g).max().orElse(0);
        return most == 0 ? NONE : gain.indexOf(most);
    }

    int ditch() {
        return told().ditch;
    }

    int bait(int heir) {
        if (heir < 0 || heir >= heirs().size()) return BAD;
        for (int lure = 0; lure <= 9; lure++) {
            int[] last = withLure(heir, lure).last();
            int mine = last[heir];
            last[heir] = 0;
            if (mine > Arrays.stream(last).max().orElse(0)) return lure;
        }
        return NONE;
    }

    /** How much, then the row; empty: there are no heirs. */
    List<Integer> fairest() {
        List<Integer> best = new ArrayList<>();
        everyRow(new ArrayList<>(), best, heirs());
        return best;
    }

    private void everyRow(List<Integer> row, List<Integer> best, List<Heir> heirs) {
        if (heirs.isEmpty()) return;
        if (row.size() == heirs.size()) {
            int least = Arrays.stream(walk(heirs, row, flies, NONE).last()).min().getAsInt();
            if (best.isEmpty() || least > best.get(0)) {
                best.clear();
                best.add(least);
                best.addAll(row);
            }
            return;
        }
        for (int h = 0; h < heirs.size(); h++) {
            if (row.contains(h)) continue;
            row.add(h);
            everyRow(row, best, heirs);
            row.remove(row.size() - 1);
        }
    }

    int fair(int what) {
        if (what < 0 || what > 8) return BAD;
        List<Integer> best = fairest();
        return what < best.size() ? best.get(what) : NONE;
    }

    int care(int heir) {
        if (heir < 0 || heir >= heirs().size()) return BAD;
        for (int kind = 0; kind <= 9; kind++) if (!withKind(heir, kind).out[heir]) return kind;
        return NONE;
    }

    int skip(int heir, int what) {
        int n = heirs().size();
        if (heir < 0 || heir >= n || what < 0 || what > 1) return BAD;
        int which = NONE, most = NONE;
        for (int o = 0; o < n; o++) {
            if (o == heir) continue;
            int mine = walk(heirs(), route(), flies, o).last()[heir];
            if (mine > most) {
                most = mine;
                which = o;
            }
        }
        return what == 0 ? which : most;
    }

    int seen(int stop, int did) {
        if (stop < 0 || stop > 19 || did < 0 || did > 4) return BAD;
        if (seen.size() == 8) return FULL;
        seen.add(new int[] {stop, did});
        return seen.size();
    }

    int forget() {
        int had = seen.size();
        seen.clear();
        return had;
    }

    private boolean cameOut(Tale t) {
        return seen.stream().allMatch(s -> s[0] < t.did.size() && t.did.get(s[0]) == s[1]);
    }

    int never() {
        int bits = 0;
        for (int i = 0; i < flies.size(); i++) {
            List<Integer> fewer = new ArrayList<>(flies);
            fewer.remove(i);
            if (cameOut(walk(heirs(), route(), fewer, NONE))) bits += 1 << i;
        }
        return bits;
    }

    int was(int heir, int what) {
        if (heir < 0 || heir >= heirs().size() || what < 0 || what > 1) return BAD;
        int bits = 0;
        for (int v = 0; v <= 9; v++) if (cameOut(what == 0 ? withLure(heir, v) : withKind(heir, v))) bits += 1 << v;
        return bits;
    }

    int ask(int heir) {
        if (heir < 0 || heir >= heirs().size()) return BAD;
        int laid = was(heir, 0), best = NONE, least = 99;
        for (int stop = 0; stop < route().size(); stop++) {
            int[] alike = new int[5];
            for (int v = 0; v <= 9; v++) if ((laid >> v & 1) == 1) alike[withLure(heir, v).did.get(stop)]++;
            int most = Arrays.stream(alike).max().getAsInt();
            if (most < least) {
                least = most;
                best = stop;
            }
        }
        return best;
    }

    long swarm(int c, int heir, int what) {
        if (c < 0 || c > 16 || heir < 0 || heir >= heirs().size() || what < 0 || what > 1) return Long.MIN_VALUE + 2;
        BigInteger above = chance(c, heir, 0, new ArrayList<>()), below = BigInteger.valueOf(16).pow(flies.size());
        BigInteger common = above.gcd(below);
        return (what == 0 ? above : below).divide(common).longValueExact();
    }

    private BigInteger chance(int c, int heir, int fly, List<Integer> there) {
        if (fly == flies.size()) {
            return walk(heirs(), route(), there, NONE).richest() == heir ? BigInteger.ONE : BigInteger.ZERO;
        }
        List<Integer> more = new ArrayList<>(there);
        more.add(flies.get(fly));
        return chance(c, heir, fly + 1, more).multiply(BigInteger.valueOf(c))
            .add(chance(c, heir, fly + 1, there).multiply(BigInteger.valueOf(16 - c)));
    }

    int again(int seed, int n, int what) {
        if (n < 1 || n > 20 || what < 0 || what > 1) return BAD;
        List<Integer> route = new ArrayList<>();
        int m = heirs().size();
        for (int i = 0; i < n && m > 0; i++) {
            seed = (int) (1103515245L * seed + 12345L);
            route.add((int) ((seed & 0xffffffffL) / 65536 % m));
        }
        Tale t = walk(heirs(), route, flies, NONE);
        return what == 0 ? t.estate() : t.kicks;
    }

    // ---- sheets: here they are real rows of bytes, shorts and ints

    private int found(int number) {
        finding = number;
        return -10 - number;
    }

    private static int form(Object row) {
        return row instanceof byte[] ? 0 : row instanceof short[] ? 1 : 2;
    }

    private static int length(Object row) {
        return java.lang.reflect.Array.getLength(row);
    }

    private static int item(Object row, int i) {
        return java.lang.reflect.Array.getInt(row, i);
    }

    private static void store(Object row, int i, int v) {
        if (row instanceof byte[] b) b[i] = (byte) v;
        else if (row instanceof short[] h) h[i] = (short) v;
        else ((int[]) row)[i] = v;
    }

    int sheet(int s, int form, int n) {
        if (s < 0 || s > 3 || form < 0 || form > 2 || n > 60) return BAD;
        if (n < 0) return found(5);
        sheets[s] = form == 0 ? new byte[n] : form == 1 ? new short[n] : new int[n];
        return n;
    }

    int lose(int s) {
        if (s < 0 || s > 3) return BAD;
        if (sheets[s] == null) return found(1);
        int had = length(sheets[s]);
        sheets[s] = null;
        return had;
    }

    int put(int s, int form, int i, int v) {
        if (s < 0 || s > 3 || form < 0 || form > 2) return BAD;
        if (sheets[s] == null) return found(1);
        if (form(sheets[s]) != form) return found(3);
        if (i < 0 || i >= length(sheets[s])) return found(2);
        store(sheets[s], i, v);
        return 1;
    }

    int get(int s, int form, int i) {
        if (s < 0 || s > 3 || form < 0 || form > 2) return Integer.MIN_VALUE;
        int number = 0;
        if (sheets[s] == null) number = 1;
        else if (form(sheets[s]) != form) number = 3;
        else if (i < 0 || i >= length(sheets[s])) number = 2;
        if (number == 0) return item(sheets[s], i);
        finding = number;
        return Integer.MIN_VALUE;
    }

    int copy(int s, int i, int t, int j, int n) {
        if (s < 0 || s > 3 || t < 0 || t > 3) return BAD;
        if (sheets[s] == null || sheets[t] == null) return found(1);
        if (form(sheets[s]) != form(sheets[t])) return found(4);
        if (i < 0 || j < 0 || n < 0) return found(2);
        if ((long) i + n > length(sheets[s]) || (long) j + n > length(sheets[t])) return found(2);
        int[] held = new int[n];
        for (int k = 0; k < n; k++) held[k] = item(sheets[s], i + k);
        for (int k = 0; k < n; k++) store(sheets[t], j + k, held[k]);
        return 1;
    }

    int write(int stops, int s) {
        if (stops < 0 || stops > route().size() || s < 0 || s > 3) return BAD;
        if (sheets[s] == null) return found(1);
        int h = 0;
        for (; h < heirs().size() && h < length(sheets[s]); h++) store(sheets[s], h, share(stops, h, 0));
        return h;
    }

    int count(int what) {
        return switch (what) {
            case 0 -> heirs().size();
            case 1 -> route().size();
            case 2, 3 -> texts[what - 2].length();
            case 4 -> flies.size();
            case 5 -> told().kicks;
            case 6 -> {
                List<int[]> fields = told().fields;
                yield Arrays.stream(fields.get(fields.size() - 1)).sum();
            }
            case 7 -> seen.size();
            case 8 -> finding;
            default -> BAD;
        };
    }

    long digest() {
        List<Long> all = new ArrayList<>();
        for (int w = 0; w <= 7; w++) all.add((long) count(w));
        for (int t = 0; t <= 1; t++) all.add((long) fault(t));
        int heirs = heirs().size(), stops = route().size();
        for (int h = 0; h < heirs; h++) {
            for (int w = 0; w <= 2; w++) all.add((long) heir(h, w));
            for (int w = 0; w <= 2; w++) all.add((long) share(stops, h, w));
            for (int v : new int[] {bait(h), care(h), skip(h, 0), skip(h, 1), was(h, 0), was(h, 1), ask(h)}) all.add((long) v);
            all.add(swarm(5, h, 0));
            all.add(swarm(5, h, 1));
        }
        for (int s = 0; s < stops; s++) {
            all.add((long) round(s));
            for (int w = 0; w <= 3; w++) all.add((long) does(s, w));
            for (int h = 0; h < heirs; h++) all.add((long) share(s, h, 0));
        }
        for (int v : new int[] {out(), estate(), richest(), longest(), ditch()}) all.add((long) v);
        List<Integer> best = fairest();
        for (int w = 0; w <= 3; w++) all.add((long) (w < best.size() ? best.get(w) : NONE));
        for (int v : new int[] {never(), again(7, 15, 0), again(7, 15, 1)}) all.add((long) v);
        long h = 17;
        for (long v : all) h = 31 * h + v;
        return h;
    }
}
