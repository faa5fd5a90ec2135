import java.util.Random;

/** Holds the class against PlainModel on runs of random calls: right ones, those at the edges, and wrong ones. */
public final class ModelTest {
    private static final int[] ODD = {
        Integer.MIN_VALUE, Integer.MIN_VALUE + 1, -65536, -2, -1, 0, 1, 2, 3, 4, 5, 7, 8, 9, 10, 16, 17, 19, 20, 21,
        30, 31, 32, 60, 61, 127, 128, 255, 256, 32767, 32768, 65535, Integer.MAX_VALUE - 1, Integer.MAX_VALUE};

    private final Random random;
    private final DonkeyExecutor real = new DonkeyExecutor();
    private final PlainModel plain = new PlainModel();
    private final int heirs;
    private String call = "";

    private ModelTest(long seed) {
        random = new Random(seed);
        // rows of all eight heirs are many for the plain model, so they come seldom
        heirs = random.nextInt(12) == 0 ? 7 + random.nextInt(2) : random.nextInt(7);
    }

    public static void main(String[] args) {
        int wrong = 0;
        for (long seed = 1; seed <= 400; seed++) {
            String told = new ModelTest(seed).run();
            if (told != null) {
                wrong++;
                System.out.println("seed " + seed + ": " + told);
            }
        }
        System.out.println(wrong == 0 ? "the class answers as the plain model" : wrong + " runs differ");
        if (wrong != 0) System.exit(1);
    }

    private String run() {
        if (random.nextInt(8) != 0) typeWell();
        for (int i = 0; i < 80 + heirs; i++) {
            long[] pair = step();
            if (pair[0] != pair[1]) return call + " answered " + pair[0] + ", due is " + pair[1];
        }
        long got = real.digest(), due = plain.digest();
        return got == due ? null : "digest() answered " + got + ", due is " + due;
    }

    private void typeWell() {
        StringBuilder text = new StringBuilder();
        for (int h = 0; h < heirs; h++) {
            if (h > 0) text.append(';');
            text.append("kms".charAt(random.nextInt(3))).append(random.nextInt(10)).append(random.nextInt(10));
        }
        type(0, text.toString());
        text.setLength(0);
        int stops = random.nextInt(21);
        for (int i = 0; i < stops; i++) {
            text.append((char) ('a' + (random.nextInt(10) == 0 ? random.nextInt(8) : random.nextInt(Math.max(heirs, 1)))));
        }
        type(1, text.toString());
    }

    private void type(int text, String signs) {
        for (char c : signs.toCharArray()) {
            real.type(text, c);
            plain.type(text, c);
        }
    }

    /** Mostly 0 to most, at times something else. */
    private int some(int most) {
        int r = random.nextInt(40);
        if (r == 0) return ODD[random.nextInt(ODD.length)];
        if (r == 1) return most + 1;
        if (r == 2) return -1;
        return random.nextInt(most + 1);
    }

    private int value() {
        int r = random.nextInt(3);
        if (r == 0) return ODD[random.nextInt(ODD.length)];
        return r == 1 ? random.nextInt() : random.nextInt(20);
    }

    private long[] both(String name, long got, long due, int... args) {
        StringBuilder text = new StringBuilder(name).append('(');
        for (int i = 0; i < args.length; i++) text.append(i > 0 ? ", " : "").append(args[i]);
        call = text.append(')').toString();
        return new long[] {got, due};
    }

    private long[] step() {
        int a, b, c, d, e;
        switch (random.nextInt(64)) {
            case 0: case 1:
                a = some(1);
                b = random.nextInt(3) == 0 ? some(255) : (int) "kms0123456789;abcdefgh".charAt(random.nextInt(22));
                return both("type", real.type(a, b), plain.type(a, b), a, b);
            case 2:
                if (random.nextInt(6) != 0) return both("count", real.count(2), plain.count(2), 2);
                a = some(1);
                return both("wipe", real.wipe(a), plain.wipe(a), a);
            case 3: case 4: case 5: a = some(1); return both("undo", real.undo(a), plain.undo(a), a);
            case 6: a = some(1); return both("fault", real.fault(a), plain.fault(a), a);
            case 7: a = some(7); b = some(2); return both("heir", real.heir(a, b), plain.heir(a, b), a, b);
            case 8: a = some(19); return both("round", real.round(a), plain.round(a), a);
            case 9: case 10: case 11:
                a = some(3);
                b = some(a == 2 ? 19 : 9);
                return both("set", real.set(a, b), plain.set(a, b), a, b);
            case 12: case 13: case 14: a = some(19); return both("fly", real.fly(a), plain.fly(a), a);
            case 15: return both("back", real.back(), plain.back());
            case 16: a = some(3); return both("read", real.read(a), plain.read(a), a);
            case 17: case 18: a = some(19); b = some(3); return both("does", real.does(a, b), plain.does(a, b), a, b);
            case 19: case 20:
                a = some(20);
                b = some(7);
                c = some(2);
                return both("share", real.share(a, b, c), plain.share(a, b, c), a, b, c);
            case 21: return both("out", real.out(), plain.out());
            case 22: return both("estate", real.estate(), plain.estate());
            case 23: return both("richest", real.richest(), plain.richest());
            case 24: return both("longest", real.longest(), plain.longest());
            case 25: return both("ditch", real.ditch(), plain.ditch());
            case 26: case 27: a = some(7); return both("bait", real.bait(a), plain.bait(a), a);
            case 28: a = some(8); return both("fair", real.fair(a), plain.fair(a), a);
            case 29: a = some(7); return both("care", real.care(a), plain.care(a), a);
            case 30: case 31: a = some(7); b = some(1); return both("skip", real.skip(a, b), plain.skip(a, b), a, b);
            case 32: case 33: return saw();
            case 34: return both("forget", real.forget(), plain.forget());
            case 35: return both("never", real.never(), plain.never());
            case 36: case 37: a = some(7); b = some(1); return both("was", real.was(a, b), plain.was(a, b), a, b);
            case 38: case 39: a = some(7); return both("ask", real.ask(a), plain.ask(a), a);
            case 40: case 41:
                a = some(16);
                b = some(7);
                c = some(1);
                return both("swarm", real.swarm(a, b, c), plain.swarm(a, b, c), a, b, c);
            case 42: case 43:
                a = value();
                b = some(20);
                c = some(1);
                return both("again", real.again(a, b, c), plain.again(a, b, c), a, b, c);
            case 44: case 45: case 46: case 47:
                a = some(3);
                b = some(2);
                c = some(random.nextInt(3) == 0 ? 60 : 8);
                return both("sheet", real.sheet(a, b, c), plain.sheet(a, b, c), a, b, c);
            case 48: a = some(3); return both("lose", real.lose(a), plain.lose(a), a);
            case 49: case 50: case 51: case 52:
                a = some(3);
                b = some(2);
                c = some(7);
                d = value();
                return both("put", real.put(a, b, c, d), plain.put(a, b, c, d), a, b, c, d);
            case 53: case 54: case 55:
                a = some(3);
                b = some(2);
                c = some(7);
                return both("get", real.get(a, b, c), plain.get(a, b, c), a, b, c);
            case 56: case 57: case 58:
                a = some(3);
                b = some(4);
                c = some(3);
                d = some(4);
                e = some(4);
                return both("copy", real.copy(a, b, c, d, e), plain.copy(a, b, c, d, e), a, b, c, d, e);
            case 59: case 60: a = some(20); b = some(3); return both("write", real.write(a, b), plain.write(a, b), a, b);
            case 61: case 62: a = some(8); return both("count", real.count(a), plain.count(a), a);
            default:
                if (heirs > 6 && random.nextInt(4) != 0) return both("out", real.out(), plain.out());
                return both("digest", real.digest(), plain.digest());
        }
    }

    /** Mostly what it truly does, so that something is left that fits. */
    private long[] saw() {
        int stop = some(19), did = some(4);
        int truly = plain.does(stop, 0);
        if (truly >= 0 && random.nextInt(4) != 0) did = truly;
        return both("seen", real.seen(stop, did), plain.seen(stop, did), stop, did);
    }
}
