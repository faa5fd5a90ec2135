/** For each promise of the document: ordinary calls, the edges that it names, and wrong ones, worked out by hand. */
public final class PromiseTest {
    private static final int NONE = -1, BAD = -2, NOT = -3, FULL = -4;
    private static final int NULL = -11, INDEX = -12, CAST = -13, STORE = -14, SIZE = -15;
    private static final int LEAST = Integer.MIN_VALUE;
    private static final int[] NO_TEXTS = {-1, 2, Integer.MIN_VALUE, Integer.MAX_VALUE};
    private static final int[] NO_SHEETS = {-1, 4, Integer.MIN_VALUE, Integer.MAX_VALUE};

    private static int wrong = 0;
    private static int promise = 0;

    public static void main(String[] args) {
        theTexts();
        theDonkeyAndItsFlies();
        theStops();
        theLastOfTheRound();
        thePlans();
        theSeen();
        theChances();
        theSheets();
        theCountsAndTheDigest();
        System.out.println(wrong == 0 ? "all promises hold" : wrong + " answers are not as due");
        if (wrong != 0) System.exit(1);
    }

    private static void due(String call, long got, long want) {
        if (got != want) {
            wrong++;
            System.out.println("promise " + promise + ": " + call + " answered " + got + ", due is " + want);
        }
    }

    private static DonkeyExecutor will(String heirs, String round) {
        DonkeyExecutor x = new DonkeyExecutor();
        type(x, 0, heirs);
        type(x, 1, round);
        return x;
    }

    private static void type(DonkeyExecutor x, int text, String signs) {
        for (int i = 0; i < signs.length(); i++) x.type(text, signs.charAt(i));
    }

    private static void fault(String text, int which, long want) {
        due("fault(" + which + ") of " + text, will(which == 0 ? text : "", which == 1 ? text : "").fault(which), want);
    }

    // ---- promises 1 to 7

    private static void theTexts() {
        promise = 1;
        DonkeyExecutor x = new DonkeyExecutor();
        for (int what = 0; what <= 8; what++) due("count(" + what + ")", x.count(what), 0);
        for (int s = 0; s <= 3; s++) due("lose(" + s + ")", x.lose(s), NULL);
        due("HUNGER at first", x.set(0, 5), 5);
        due("FEAR at first", x.set(1, 3), 3);
        due("GRIEF at first", x.set(2, 4), 4);
        due("BAR at first", x.set(3, 9), 9);
        due("NONE", DonkeyExecutor.NONE, NONE);
        due("BAD", DonkeyExecutor.BAD, BAD);
        due("NOT", DonkeyExecutor.NOT, NOT);
        due("FULL", DonkeyExecutor.FULL, FULL);
        x.type(0, 'k');
        x.set(1, 7);
        due("a second object's bytes", new DonkeyExecutor().count(2), 0);
        due("a second object's FEAR", new DonkeyExecutor().set(1, 0), 3);

        promise = 2;
        x = new DonkeyExecutor();
        for (int text : NO_TEXTS) due("type(" + text + ", 97)", x.type(text, 97), BAD);
        due("type(0, -1)", x.type(0, -1), BAD);
        due("type(0, 256)", x.type(0, 256), BAD);
        due("type(1, least)", x.type(1, LEAST), BAD);
        due("bytes behind refusals", x.count(2) + x.count(3), 0);
        for (int n = 1; n <= 31; n++) due("type(0, " + n + ")", x.type(0, n % 2 * 255), n);
        due("type(0, 0) in a full text", x.type(0, 0), FULL);
        due("type(0, 256) in a full text", x.type(0, 256), BAD);
        due("bytes of a full text", x.count(2), 31);
        for (int n = 1; n <= 20; n++) due("type(1, a) of " + n, x.type(1, 'a'), n);
        due("type(1, a) in a full text", x.type(1, 'a'), FULL);
        due("stops of a full text", x.count(1), 20);

        promise = 3;
        for (int text : NO_TEXTS) due("wipe(" + text + ")", x.wipe(text), BAD);
        due("wipe(0)", x.wipe(0), 31);
        due("bytes", x.count(2), 0);
        due("bytes of the other text", x.count(3), 20);
        due("wipe(0) of an empty one", x.wipe(0), 0);
        due("wipe(1)", x.wipe(1), 20);
        due("stops", x.count(1), 0);
        due("type behind wipe", x.type(1, 'b'), 1);
        due("round(0) behind wipe", x.round(0), 1);

        promise = 4;
        x = will("k12;", "ab");
        for (int text : NO_TEXTS) due("undo(" + text + ")", x.undo(text), BAD);
        due("heirs of an unended text", x.count(0), 0);
        due("undo(0)", x.undo(0), 3);
        due("heirs behind undo", x.count(0), 1);
        due("undo(1)", x.undo(1), 1);
        due("undo(1)", x.undo(1), 0);
        due("undo(1) of an empty one", x.undo(1), NOT);
        due("stops", x.count(1), 0);

        promise = 5;
        for (int text : NO_TEXTS) due("fault(" + text + ")", x.fault(text), BAD);
        fault("", 0, NONE);
        fault("k00", 0, NONE);
        fault("m99;s09", 0, NONE);
        fault("k00;k00;k00;k00;k00;k00;k00;k00", 0, NONE);
        fault("k", 0, 1);
        fault("k1", 0, 2);
        fault("k12;", 0, 4);
        fault("k12;s", 0, 5);
        fault("K12", 0, 0);
        fault("l12", 0, 0);
        fault("012", 0, 0);
        fault("km2", 0, 1);
        fault("k/2", 0, 1);
        fault("k:2", 0, 1);
        fault("k1:", 0, 2);
        fault("k1;", 0, 2);
        fault("k123", 0, 3);
        fault("k12:k12", 0, 3);
        fault("k12;;", 0, 4);
        fault("k12;xx", 0, 4);
        fault(";", 0, 0);
        fault("", 1, NONE);
        fault("abcdefghabcdefghabcd", 1, NONE);
        fault("`", 1, 0);
        fault("abci", 1, 3);
        fault("aAa", 1, 1);

        promise = 6;
        x = will("k07;m93;s50", "");
        int[][] heirs = {{0, 0, 7}, {1, 9, 3}, {2, 5, 0}};
        for (int h = 0; h < 3; h++) for (int w = 0; w < 3; w++) due("heir(" + h + ", " + w + ")", x.heir(h, w), heirs[h][w]);
        due("heir(3, 0)", x.heir(3, 0), BAD);
        due("heir(-1, 0)", x.heir(-1, 0), BAD);
        due("heir(0, -1)", x.heir(0, -1), BAD);
        due("heir(0, 3)", x.heir(0, 3), BAD);
        x.type(0, ';');
        due("heir(0, 0) with a FAULT", x.heir(0, 0), BAD);
        due("count(2) with a FAULT", x.count(2), 12);
        x = will("k00;k00;k00;k00;k00;k00;k00;s89", "");
        due("heir(7, 0)", x.heir(7, 0), 2);
        due("heir(7, 1)", x.heir(7, 1), 8);
        due("heir(7, 2)", x.heir(7, 2), 9);
        due("heir(8, 0)", x.heir(8, 0), BAD);

        promise = 7;
        x = will("k11", "hab");
        due("round(0)", x.round(0), 7);
        due("round(1)", x.round(1), 0);
        due("round(2)", x.round(2), 1);
        due("round(3)", x.round(3), NONE);
        due("round(19)", x.round(19), NONE);
        due("round(20)", x.round(20), BAD);
        due("round(-1)", x.round(-1), BAD);
        x.type(1, 'z');
        due("round(0) with a FAULT", x.round(0), NONE);
        due("count(1) with a FAULT", x.count(1), 0);
        due("count(3) with a FAULT", x.count(3), 4);
    }

    // ---- promises 8 to 11

    private static void theDonkeyAndItsFlies() {
        promise = 8;
        DonkeyExecutor x = will("k35", "a");
        int[] most = {9, 9, 19, 9}, first = {5, 3, 4, 9};
        for (int what = 0; what < 4; what++) {
            due("set(" + what + ", -1)", x.set(what, -1), BAD);
            due("set(" + what + ", most + 1)", x.set(what, most[what] + 1), BAD);
            due("set(" + what + ", most)", x.set(what, most[what]), first[what]);
            due("set(" + what + ", 0)", x.set(what, 0), most[what]);
            due("set(" + what + ", first)", x.set(what, first[what]), 0);
        }
        due("set(4, 0)", x.set(4, 0), BAD);
        due("set(-1, 0)", x.set(-1, 0), BAD);
        x.set(0, 2);
        due("does(0, 1) by HUNGER 2", x.does(0, 1), 2);
        x.set(3, 1);
        due("does(0, 1) by BAR 1", x.does(0, 1), 1);
        x.set(1, 5);
        due("does(0, 0) by FEAR 5", x.does(0, 0), 1);
        x.set(1, 4);
        due("does(0, 0) by GRIEF 4", x.does(0, 0), 2);
        x.set(2, 5);
        due("does(0, 0) by GRIEF 5", x.does(0, 0), 3);

        promise = 9;
        x = will("k40", "aa");
        x.set(2, 19);
        due("fly(-1)", x.fly(-1), BAD);
        due("fly(20)", x.fly(20), BAD);
        due("does(1, 0) without FLIES", x.does(1, 0), 3);
        due("fly(1)", x.fly(1), 1);
        due("does(0, 0) with FLIES elsewhere", x.does(0, 0), 3);
        due("does(1, 0) with FLIES", x.does(1, 0), 1);
        due("fly(19)", x.fly(19), 2);
        for (int n = 3; n <= 6; n++) due("fly(1) of " + n, x.fly(1), n);
        due("fly(0) of 7", x.fly(0), FULL);
        due("fly(20) of 7", x.fly(20), BAD);
        due("count(4)", x.count(4), 6);
        due("does(0, 0) behind FULL", x.does(0, 0), 3);

        promise = 10;
        x = will("k40", "aa");
        x.set(2, 19);
        due("back() of none", x.back(), NOT);
        x.fly(1);
        x.fly(0);
        due("does(0, 0) with both", x.does(0, 0), 1);
        due("back()", x.back(), 1);
        due("does(0, 0) with the first alone", x.does(0, 0), 3);
        due("does(1, 0) with the first alone", x.does(1, 0), 1);
        due("back()", x.back(), 0);
        due("does(1, 0) with none", x.does(1, 0), 3);
        due("back() of none", x.back(), NOT);

        promise = 11;
        x = will("k40", "aaa");
        x.set(2, 19);
        for (int s : NO_SHEETS) due("read(" + s + ")", x.read(s), BAD);
        x.fly(2);
        due("read(1) of a LOST one", x.read(1), NULL);
        due("count(4) behind NULL", x.count(4), 1);
        due("count(8)", x.count(8), 1);
        sheet(x, 1, 2, 0, 19, 20, 1);
        due("read(1) up to a 20", x.read(1), 2);
        due("count(4) with the one that was", x.count(4), 3);
        due("does(0, 0) with FLIES read", x.does(0, 0), 1);
        x = fliedAt(2);
        sheet(x, 1, 2, 0, 19, 20, 1);
        due("never() ahead of it", x.never(), 0b1);
        x.read(1);
        due("never() behind it", x.never(), 0b111);
        x.seen(0, 1);
        x.back();
        due("does(2, 0) with FLIES that were", x.does(2, 0), 0);
        due("never() with FLIES read behind those that were", x.never(), 0b01);
        x.back();
        due("does(0, 0) with FLIES read undone", x.does(0, 0), 3);
        due("does(2, 0) with FLIES that were alone", x.does(2, 0), 1);
        due("back() to the one that was", x.back(), 0);

        x = fliedAt(2);
        sheet(x, 1, 0, 1, -1, 0);
        due("read(1) up to a -1", x.read(1), 1);
        due("count(4) behind a -1", x.count(4), 2);
        due("does(0, 0) behind a -1", x.does(0, 0), 3);
        due("does(1, 0) behind a -1", x.does(1, 0), 1);
        sheet(x, 2, 1, 20, 0);
        due("read(2) of none that may be", x.read(2), 0);
        due("count(4) behind none that may be", x.count(4), 2);
        x.sheet(3, 0, 0);
        due("read(3) of an empty one", x.read(3), 0);
        due("count(4) behind an empty one", x.count(4), 2);
        due("does(1, 0) behind an empty one", x.does(1, 0), 1);
        due("count(8) of nothing found", x.count(8), 0);
        readToTheLimit();
    }

    private static DonkeyExecutor fliedAt(int stop) {
        DonkeyExecutor x = will("k40", "aaa");
        x.set(2, 19);
        x.fly(stop);
        return x;
    }

    private static void readToTheLimit() {
        DonkeyExecutor x = new DonkeyExecutor();
        sheet(x, 2, 1, 0, 1, 2, 3, 4, 5, 6);
        due("read(2) of seven shorts", x.read(2), 6);
        due("read(2) with six there", x.read(2), 0);
        due("count(4) with six there", x.count(4), 6);
        due("count(8) with six there", x.count(8), 0);
        x.back();
        due("read(2) with five there", x.read(2), 1);
        x = fliedAt(1);
        sheet(x, 0, 2, 19, 19, 19, 19);
        due("read(0) once", x.read(0), 4);
        sheet(x, 0, 2, 19, 0);
        due("read(0) with room for one", x.read(0), 1);
        due("does(0, 0) at an item beyond the limit", x.does(0, 0), 3);
        due("does(1, 0) at FLIES that were", x.does(1, 0), 1);
        due("get(0, 2, 1) of a SHEET that was read", x.get(0, 2, 1), 0);
    }

    private static void sheet(DonkeyExecutor x, int s, int form, int... items) {
        x.sheet(s, form, items.length);
        for (int i = 0; i < items.length; i++) x.put(s, form, i, items[i]);
    }

    // ---- promises 12 and 13

    private static void stop(DonkeyExecutor x, int stop, int did, int ate, int hunger, int pull) {
        int[] want = {did, ate, hunger, pull};
        for (int what = 0; what < 4; what++) due("does(" + stop + ", " + what + ")", x.does(stop, what), want[what]);
    }

    private static void stands(DonkeyExecutor x, int stops, int heir, int share, int fields, int left) {
        int[] want = {share, fields, left};
        for (int what = 0; what < 3; what++) {
            due("share(" + stops + ", " + heir + ", " + what + ")", x.share(stops, heir, what), want[what]);
        }
    }

    private static void theStops() {
        // k54: pull 9 and ate; s22: afraid by 5, kicks; m24: pull 4 is the grief; b is out, h is not there
        DonkeyExecutor x = will("k54;s22;m24", "abcbha");
        promise = 12;
        stop(x, 0, 4, 4, 5, 9);
        stop(x, 1, 1, 0, 2, 4);
        stop(x, 2, 3, 3, 3, 5);
        stop(x, 3, 0, 0, 1, 0);
        stop(x, 4, 0, 0, 2, 0);
        stop(x, 5, 3, 0, 3, 5);
        due("does(6, 0)", x.does(6, 0), BAD);
        due("does(-1, 0)", x.does(-1, 0), BAD);
        due("does(0, 4)", x.does(0, 4), BAD);
        due("does(0, -1)", x.does(0, -1), BAD);
        x.set(2, 5);
        stop(x, 2, 2, 3, 3, 5);
        stop(x, 5, 2, 0, 3, 5);
        DonkeyExecutor fewer = will("k60;k70", "ab");
        for (int n = 0; n < 4; n++) fewer.undo(0);
        stop(fewer, 1, 0, 0, 6, 0);
        afraidBy();
        eatsNoMoreThan();

        promise = 13;
        x.set(2, 4);
        stands(x, 0, 0, 0, 0, 4);
        stands(x, 1, 0, 18, 1, 0);
        stands(x, 2, 1, 0, 0, 2);
        stands(x, 3, 2, 10, 0, 1);
        stands(x, 6, 0, 23, 1, 0);
        stands(x, 6, 1, 0, 0, 2);
        x.set(2, 5);
        stands(x, 2, 0, 18, 1, 0);
        stands(x, 3, 0, 9, 1, 0);
        stands(x, 3, 2, 0, 0, 1);
        stands(x, 6, 0, 4, 1, 0);
        due("share(7, 0, 0)", x.share(7, 0, 0), BAD);
        due("share(-1, 0, 0)", x.share(-1, 0, 0), BAD);
        due("share(0, 3, 0)", x.share(0, 3, 0), BAD);
        due("share(0, -1, 0)", x.share(0, -1, 0), BAD);
        due("share(0, 0, 3)", x.share(0, 0, 3), BAD);
        due("share(0, 0, -1)", x.share(0, 0, -1), BAD);
        due("share(0, 0, 0) without STOPS", will("k11", "").share(0, 0, 0), 0);
        due("share(1, 0, 0) without STOPS", will("k11", "").share(1, 0, 0), BAD);
        // a kick takes shares and fields that were there: pull 9 + 4, then 9, then 9 with flies and fear 9
        x = will("k94", "aaa");
        x.set(1, 9);
        x.fly(2);
        stands(x, 1, 0, 18, 1, 0);
        stands(x, 2, 0, 27, 2, 0);
        stands(x, 3, 0, 0, 0, 0);
        // the pull counts 9 at most, twice if it ate; a bray needs 9
        x = will("k80;k90;k81", "abc");
        stands(x, 3, 0, 8, 0, 0);
        stands(x, 3, 1, 9, 1, 0);
        stands(x, 3, 2, 18, 1, 0);
        x = will("k99", "a");
        x.set(0, 9);
        stop(x, 0, 4, 9, 9, 18);
        stands(x, 1, 0, 18, 1, 0);
        x.set(2, 18);
        stop(x, 0, 2, 9, 9, 18);
        stands(x, 1, 0, 0, 0, 0);
    }

    private static void afraidBy() {
        int[] least = {3, 2, 5};
        for (int sort = 0; sort < 3; sort++) {
            for (int kind = 0; kind <= 9; kind++) {
                DonkeyExecutor x = will("kms".charAt(sort) + "" + kind + "0", "a");
                x.set(2, 19);
                int stays = kind >= 9 ? 4 : 3;
                due("does(0, 0) of " + sort + kind, x.does(0, 0), kind < least[sort] ? 1 : stays);
                x.fly(0);
                due("does(0, 0) with flies of " + sort + kind, x.does(0, 0), kind < least[sort] + 2 ? 1 : stays);
                x.fly(0);
                due("does(0, 0) with more flies of " + sort + kind, x.does(0, 0), kind < least[sort] + 2 ? 1 : stays);
            }
        }
        DonkeyExecutor x = will("m00", "aa");
        x.set(1, 0);
        x.set(2, 19);
        stop(x, 0, 3, 0, 5, 0);
        x.fly(1);
        stop(x, 1, 1, 0, 6, 0);
        x.set(2, 0);
        stop(x, 0, 2, 0, 5, 0);
    }

    private static void eatsNoMoreThan() {
        DonkeyExecutor x = will("k39", "aaaaaa");
        stop(x, 0, 3, 5, 5, 8);
        stop(x, 1, 2, 1, 1, 4);
        x.set(3, 2);
        stop(x, 0, 3, 2, 5, 5);
        stop(x, 1, 3, 2, 4, 5);
        stop(x, 2, 3, 2, 3, 5);
        stop(x, 3, 3, 2, 2, 5);
        stop(x, 4, 2, 1, 1, 4);
        stop(x, 5, 3, 0, 1, 3);
        x.set(3, 0);
        stop(x, 0, 3, 0, 5, 3);
        stop(x, 4, 3, 0, 9, 3);
        stop(x, 5, 3, 0, 9, 3);
        x.set(3, 9);
        x.set(0, 0);
        stop(x, 0, 3, 0, 0, 3);
        stop(x, 1, 2, 1, 1, 4);
    }

    // ---- promises 14 to 18

    private static void theLastOfTheRound() {
        DonkeyExecutor x = will("k54;s22;m24;k09", "abcbhad");
        promise = 14;
        // hunger at d is 4: pull 4 is the grief
        due("out()", x.out(), 2);
        x.set(1, 5);
        due("out() by FEAR 5", x.out(), 2 + 8);
        due("out() of nobody", new DonkeyExecutor().out(), 0);
        due("out() of the eighth", will("k90;k90;k90;k90;k90;k90;k90;k00", "ahb").out(), 128);

        promise = 15;
        x.set(1, 3);
        due("estate()", x.estate(), 23 / 2 + 10 / 2);
        x.set(2, 19);
        due("estate() without going BACK", x.estate(), 23 + 10 + 8);
        due("estate() of nobody", new DonkeyExecutor().estate(), 0);
        due("estate() of an empty round", will("k99", "").estate(), 0);

        promise = 16;
        due("richest()", x.richest(), 0);
        due("richest() of like ones", will("k00;k60;k60", "bc").richest(), 1);
        due("richest() of like ones, the later first", will("k00;k60;k60", "cb").richest(), 1);
        due("richest() of the last", will("k00;k60;k70", "bc").richest(), 2);
        due("richest() of none that has any", will("k00;k60", "a").richest(), NONE);
        due("richest() of nobody", new DonkeyExecutor().richest(), NONE);
        due("richest() of a share of 1", fearless("k10", "a").richest(), 0);
        due("richest() of the eighth", will("k30;k30;k30;k30;k30;k30;k30;k50", "abcdefgh").richest(), 7);

        promise = 17;
        due("longest()", x.longest(), 0);
        due("longest() of like ones", will("k30;k60;k60", "abcb").longest(), 1);
        due("longest() of the last", will("k30;k60", "aab").longest(), 2);
        due("longest() by what it brought, not by the PULL", will("k31;k70", "ba").longest(), 0);
        due("longest() though it is lost later", kickedLater().longest(), 0);
        due("longest() of PASSES BY alone", will("", "abc").longest(), NONE);
        due("longest() of going BACK alone", will("k40", "a").longest(), NONE);
        due("longest() of a share of 1", fearless("k10", "a").longest(), 0);
        due("longest() of STAYS with no PULL", fearless("m00", "a").longest(), NONE);

        promise = 18;
        due("ditch() of a kick", kickedLater().ditch(), 14);
        due("ditch() of none", will("k60", "aa").ditch(), 0);
        due("ditch() of a kick that takes nothing", will("k00", "a").ditch(), 0);
        // 7 and 5: halves 3 and 2, then 1 and 1
        due("ditch() of going BACK twice", will("k70;k50;k40", "abcc").ditch(), 4 + 3 + 2 + 1);
        due("ditch() of all eight", will("k30;k30;k30;k30;k30;k30;k30;k40", "abcdefghg").ditch(), 7 * 2);
    }

    private static DonkeyExecutor fearless(String heirs, String round) {
        DonkeyExecutor x = will(heirs, round);
        x.set(1, 0);
        return x;
    }

    private static DonkeyExecutor kickedLater() {
        DonkeyExecutor x = will("k34;k90", "aab");
        x.set(1, 4);
        return x;
    }

    // ---- promises 19 to 22

    private static void thePlans() {
        promise = 19;
        // no more than 4 is eaten of any lure: 16 at most, and b has 18
        DonkeyExecutor x = will("k40;k77", "ab");
        x.set(0, 9);
        x.set(3, 4);
        due("bait(0) against 18", x.bait(0), NONE);
        x = will("k40;k70", "ab");
        due("bait(0) against 7", x.bait(0), 1);
        due("bait(1)", x.bait(1), 0);
        x = will("k50;m90", "ab");
        due("bait(0) against 9", x.bait(0), 1);
        x = will("k30;k90;k00", "abb");
        x.set(0, 9);
        // 2 min(9, 3 + v) is 18 at most, as much as two stays of 9
        due("bait(0) against a like share", x.bait(0), NONE);
        x = will("k39", "a");
        due("bait(0) of an only one", x.bait(0), 0);
        due("bait(0) of one not visited", will("k39", "").bait(0), NONE);
        due("bait(1)", x.bait(1), BAD);
        due("bait(-1)", x.bait(-1), BAD);
        due("heir(0, 2) is as it was", x.heir(0, 2), 9);
        x = will("k03", "a");
        due("bait(0) that first keeps it in", x.bait(0), 3);
        x.set(1, 9);
        due("bait(0) of one kicked by any", x.bait(0), NONE);
        due("bait(0) of a share of 1", fearless("k10", "a").bait(0), 0);
        x = will("k90;k50", "ab");
        // b needs more than 9: a lure of 1 brings 12
        due("bait(1) against 9", x.bait(1), 1);
        due("bait(0) where only a lure of 10 would do", tenth().bait(0), NONE);

        promise = 20;
        fairRows();

        promise = 21;
        x = will("k04;s00;m00", "abc");
        due("care(0)", x.care(0), 0);
        x.set(3, 0);
        due("care(0) without eating", x.care(0), 3);
        due("care(1)", x.care(1), 5);
        due("care(2)", x.care(2), 2);
        due("care(3)", x.care(3), BAD);
        due("care(-1)", x.care(-1), BAD);
        x.set(1, 9);
        due("care(0) by FEAR 9", x.care(0), 9);
        due("care(1) by FEAR 9", x.care(1), NONE);
        x.set(1, 8);
        due("care(1) where only 10 would do", x.care(1), NONE);
        due("care(0) of one not visited", will("s00", "").care(0), 0);
        due("heir(1, 1) is as it was", x.heir(1, 1), 0);

        promise = 22;
        // b goes BACK behind a; c eats what a could
        x = will("k53;k40;k39", "cab");
        // c: eats 5, hunger 1; a: eats 1, pull 6: 12; b: pull 4: all halved
        due("share(3, 0, 0)", x.share(3, 0, 0), 6);
        due("skip(0, 0)", x.skip(0, 0), 1);
        due("skip(0, 1)", x.skip(0, 1), 12);
        due("skip(2, 0)", x.skip(2, 0), 1);
        due("skip(2, 1)", x.skip(2, 1), 16);
        due("skip(1, 0) of like ones", x.skip(1, 0), 0);
        due("skip(1, 1) of like ones", x.skip(1, 1), 0);
        due("skip(0, 2)", x.skip(0, 2), BAD);
        due("skip(0, -1)", x.skip(0, -1), BAD);
        due("skip(3, 0)", x.skip(3, 0), BAD);
        due("skip(-1, 0)", x.skip(-1, 0), BAD);
        x = will("k50;k60;k04", "cab");
        // c goes BACK ahead of all: nothing is lost, so 1 is the least of like ones
        due("skip(0, 0) of nothing gained", x.skip(0, 0), 1);
        due("skip(0, 1) of nothing gained", x.skip(0, 1), 5);
        x = will("k55", "a");
        due("skip(0, 0) of an only one", x.skip(0, 0), NONE);
        due("skip(0, 1) of an only one", x.skip(0, 1), NONE);
        due("skip(1, 0) of an only one", x.skip(1, 0), BAD);
    }

    /** Nine laid out bring a just as much as b has, 18; ten would bring 20. */
    private static DonkeyExecutor tenth() {
        DonkeyExecutor x = fearless("k00;k90", "aaaabb");
        x.set(0, 9);
        x.set(2, 19);
        x.set(3, 3);
        return x;
    }

    private static void fair(DonkeyExecutor x, int... want) {
        for (int what = 0; what <= 8; what++) {
            due("fair(" + what + ")", x.fair(what), what < want.length ? want[what] : NONE);
        }
    }

    private static void fairRows() {
        DonkeyExecutor x = new DonkeyExecutor();
        fair(x);
        due("fair(9)", x.fair(9), BAD);
        due("fair(-1)", x.fair(-1), BAD);
        // THE ROUND does not matter
        x = will("k50;k60", "");
        fair(x, 5, 0, 1);
        type(x, 1, "bbbbb");
        fair(x, 5, 0, 1);
        // a goes BACK: it has 0 in any row, so the least row stays
        fair(will("k40;k60", "a"), 0, 0, 1);
        x = will("k59;k61", "a");
        x.set(0, 2);
        // a first: 2 eaten, 14; hunger 1; b: pull 7: 14. b first: 14; hunger 2; a: pull 7: 14
        fair(x, 14, 0, 1);
        x.set(0, 1);
        // a first: 12; hunger 1; b: 14. b first: 14; hunger 1; a: 12
        fair(x, 12, 0, 1);
        x.set(0, 0);
        // a first: 5; hunger 1; b: 14. b first: 6; hunger 1; a: 12
        fair(x, 6, 1, 0);
        x.set(2, 5);
        // b first: 6; a: pull 6: 12. a first: grief, 0
        fair(x, 6, 1, 0);
        x.set(2, 6);
        // a first: 5; b: pull 7: 14
        fair(x, 5, 0, 1);
        x.set(2, 19);
        x.fly(0);
        x.set(1, 5);
        // at stop 0 afraid by 7: whoever comes first is kicked, since it has no hunger yet
        fair(x, 0, 0, 1);
        x.set(0, 1);
        // a first: pull 6, kicked; b first: pull 7: 14; hunger 1; a: pull 6: 12
        fair(x, 12, 1, 0);
        due("does(0, 0) is as it was", x.does(0, 0), 1);
        // a, b, c: 6, 8, 16; c, a, b: 7, 14, 8
        x = will("k61;k31;k71", "");
        x.set(0, 0);
        x.set(2, 19);
        fair(x, 7, 2, 0, 1);
        fair(will("k50;k50;k50;k50;k50;k50;k50;k50", ""), 5, 0, 1, 2, 3, 4, 5, 6, 7);
        x = will("k50;k50;k50;k50;k50;k50;k50;k70", "");
        x.set(1, 5);
        x.fly(0);
        fair(x, 5, 7, 0, 1, 2, 3, 4, 5, 6);
    }

    // ---- promises 23 to 27

    private static void theSeen() {
        promise = 23;
        DonkeyExecutor x = will("k31;k40;s52", "abcabc");
        due("seen(-1, 0)", x.seen(-1, 0), BAD);
        due("seen(20, 0)", x.seen(20, 0), BAD);
        due("seen(0, -1)", x.seen(0, -1), BAD);
        due("seen(0, 5)", x.seen(0, 5), BAD);
        due("count(7)", x.count(7), 0);
        due("seen(0, 2)", x.seen(0, 2), 1);
        due("was(0, 0) behind seen(0, 2)", x.was(0, 0), 2);
        for (int n = 2; n <= 8; n++) due("seen of " + n, x.seen(19, 4), n);
        due("seen of 9", x.seen(19, 4), FULL);
        due("seen(20, 4) of 9", x.seen(20, 4), BAD);

        promise = 24;
        due("forget()", x.forget(), 8);
        due("count(7)", x.count(7), 0);
        due("forget() of none", x.forget(), 0);
        due("was(0, 0) behind forget()", x.was(0, 0), 1023);
        due("seen behind forget()", x.seen(0, 3), 1);
        due("was(0, 0) behind seen(0, 3)", x.was(0, 0), 1021);

        promise = 25;
        x = will("k40", "aaa");
        x.set(2, 19);
        due("never() without FLIES", x.never(), 0);
        x.fly(1);
        x.fly(2);
        due("never() with nothing SEEN", x.never(), 3);
        x.seen(1, 3);
        due("never() of the first", x.never(), 1);
        x.seen(2, 1);
        due("never() of the first still", x.never(), 1);
        x.fly(1);
        due("never() where others stay at that STOP", x.never(), 0);
        x.forget();
        x.seen(1, 1);
        x.seen(2, 0);
        due("never() of any", x.never(), 7);
        x.seen(3, 0);
        due("never() with a STOP that there is not", x.never(), 0);
        due("count(4) is as it was", x.count(4), 3);

        promise = 26;
        x = will("k31;m20", "ab");
        due("was(2, 0)", x.was(2, 0), BAD);
        due("was(-1, 0)", x.was(-1, 0), BAD);
        due("was(0, 2)", x.was(0, 2), BAD);
        due("was(0, -1)", x.was(0, -1), BAD);
        due("was(0, 0) with nothing SEEN", x.was(0, 0), 1023);
        due("was(0, 1) with nothing SEEN", x.was(0, 1), 1023);
        x.set(0, 9);
        x.seen(0, 4);
        // kind 3 and a lure of 6 or more; a lure of 1 and kind 8 or 9
        due("was(0, 0) of BRAYS", x.was(0, 0), 0b1111000000);
        due("was(0, 1) of BRAYS", x.was(0, 1), 0b1100000000);
        due("was(1, 0) of BRAYS at another", x.was(1, 0), 0);
        x.forget();
        x.seen(0, 1);
        due("was(0, 0) of KICKS", x.was(0, 0), 0);
        due("was(0, 1) of KICKS", x.was(0, 1), 0b11);
        x.forget();
        x.seen(0, 2);
        due("was(1, 0), though the other's does not bear on it", x.was(1, 0), 1023);
        x.seen(1, 3);
        // with hunger 9 left for b: any lure but 2 (the grief) and 7 or more (it brays)
        due("was(1, 0) of both", x.was(1, 0), 0b0001111011);
        x.seen(0, 3);
        due("was(1, 0) of what can't be both", x.was(1, 0), 0);
        x.forget();
        x.seen(2, 0);
        due("was(0, 0) with a STOP that there is not", x.was(0, 0), 0);
        due("was(0, 1) with a STOP that there is not", x.was(0, 1), 0);
        due("heir(0, 1) and (0, 2) are as they were", x.heir(0, 1) * 10 + x.heir(0, 2), 31);

        promise = 27;
        // hunger 9, kind 3: grief by 1, brays by 6 to 9, stays by five; stop 1 parts them no better
        x = will("k31;k60", "ba");
        x.set(0, 9);
        due("ask(0)", x.ask(0), 1);
        due("ask(1)", x.ask(1), 0);
        due("ask(2)", x.ask(2), BAD);
        due("ask(-1)", x.ask(-1), BAD);
        x.seen(1, 4);
        due("ask(0) of like ones", x.ask(0), 0);
        x.seen(1, 3);
        due("ask(0) of no LURES", x.ask(0), 0);
        due("ask(0) of no STOPS", will("k31", "").ask(0), NONE);
        due("ask(0) of one not visited", will("k31;k60", "b").ask(0), 0);
        due("ask(0) where it PASSES BY first", will("k31", "ha").ask(0), 1);
        x = will("k31", "hhhhhhhhhhhhhhhhhhha");
        due("ask(0) of the twentieth", x.ask(0), 19);
        // with no hunger ten do alike; then a lure of 0 alone keeps it from going BACK
        x = will("k31", "aa");
        x.set(0, 0);
        due("ask(0) where a LURE of 0 parts from the rest", x.ask(0), 1);
        due("heir(0, 2) is as it was", x.heir(0, 2), 1);
    }

    // ---- promises 28 and 29

    private static void chance(DonkeyExecutor x, int c, int heir, long above, long below) {
        due("swarm(" + c + ", " + heir + ", 0)", x.swarm(c, heir, 0), above);
        due("swarm(" + c + ", " + heir + ", 1)", x.swarm(c, heir, 1), below);
    }

    private static void theChances() {
        promise = 28;
        long bad = Long.MIN_VALUE + 2;
        // with flies a is kicked, and b is the richest
        DonkeyExecutor x = will("k60;k50", "ab");
        x.set(1, 5);
        chance(x, 16, 0, 1, 1);
        x.fly(0);
        chance(x, 0, 0, 1, 1);
        chance(x, 0, 1, 0, 1);
        chance(x, 16, 0, 0, 1);
        chance(x, 16, 1, 1, 1);
        chance(x, 4, 0, 3, 4);
        chance(x, 4, 1, 1, 4);
        chance(x, 5, 1, 5, 16);
        x.fly(0);
        chance(x, 4, 0, 9, 16);
        chance(x, 1, 0, 225, 256);
        x.fly(1);
        chance(x, 8, 0, 1, 4);
        // a kicked, b not: nobody is the richest where both are
        chance(x, 8, 1, 3, 8);
        for (int i = 0; i < 3; i++) x.fly(0);
        chance(x, 15, 0, 1, 1 << 20);
        chance(x, 1, 0, 759375, 1 << 20);
        chance(x, 1, 1, 15L * ((1 << 20) - 759375), 1 << 24);
        due("swarm(-1, 0, 0)", x.swarm(-1, 0, 0), bad);
        due("swarm(17, 0, 0)", x.swarm(17, 0, 0), bad);
        due("swarm(1, 2, 0)", x.swarm(1, 2, 0), bad);
        due("swarm(1, -1, 0)", x.swarm(1, -1, 0), bad);
        due("swarm(1, 0, 2)", x.swarm(1, 0, 2), bad);
        due("swarm(1, 0, -1)", x.swarm(1, 0, -1), bad);
        x.back();
        chance(x, 1, 0, 50625, 65536);
        x.wipe(1);
        chance(x, 1, 0, 0, 1);

        promise = 29;
        // 1: -> 1103527590, upper 16 bits 16838: the first of two
        x = will("k60;k70", "");
        due("again(1, 1, 0)", x.again(1, 1, 0), 6);
        // 0: upper bits 0, 54236, 42756, 54885: of two the first thrice, then the second
        due("again(0, 1, 0)", x.again(0, 1, 0), 6);
        due("again(0, 4, 0)", x.again(0, 4, 0), 25);
        due("again(0, 4, 1)", x.again(0, 4, 1), 0);
        // -1: upper bits 48697
        due("again(-1, 1, 0)", x.again(-1, 1, 0), 7);
        x.fly(0);
        x.set(1, 5);
        due("again(0, 4, 0) with FLIES", x.again(0, 4, 0), 7);
        due("again(0, 4, 1) with FLIES", x.again(0, 4, 1), 1);
        due("again(0, 0, 0)", x.again(0, 0, 0), BAD);
        due("again(0, 21, 0)", x.again(0, 21, 0), BAD);
        due("again(0, -1, 0)", x.again(0, -1, 0), BAD);
        due("again(0, 1, 2)", x.again(0, 1, 2), BAD);
        due("again(0, 1, -1)", x.again(0, 1, -1), BAD);
        due("again(5, 20, 0) of an only one", will("k60", "").again(5, 20, 0), 120);
        due("again(5, 20, 0) of nobody", will("", "aaa").again(5, 20, 0), 0);
        due("again(5, 20, 1) of nobody", will("", "aaa").again(5, 20, 1), 0);
        due("THE ROUND is as it was", x.count(1), 0);
    }

    // ---- promises 30 to 35

    private static void theSheets() {
        promise = 30;
        DonkeyExecutor x = will("k60;k70", "ab");
        for (int s : NO_SHEETS) due("sheet(" + s + ", 0, 1)", x.sheet(s, 0, 1), BAD);
        due("sheet(0, -1, 1)", x.sheet(0, -1, 1), BAD);
        due("sheet(0, 3, 1)", x.sheet(0, 3, 1), BAD);
        due("sheet(0, 3, -1)", x.sheet(0, 3, -1), BAD);
        due("sheet(0, 0, 61)", x.sheet(0, 0, 61), BAD);
        due("count(8) behind BAD", x.count(8), 0);
        due("sheet(0, 0, -1)", x.sheet(0, 0, -1), SIZE);
        due("count(8) behind SIZE", x.count(8), 5);
        due("lose(0) behind refusals", x.lose(0), NULL);
        due("sheet(0, 2, 60)", x.sheet(0, 2, 60), 60);
        due("put(0, 2, 59, 7)", x.put(0, 2, 59, 7), 1);
        due("sheet(0, 2, least)", x.sheet(0, 2, LEAST), SIZE);
        due("get(0, 2, 59) behind SIZE", x.get(0, 2, 59), 7);
        due("sheet(0, 2, 60) anew", x.sheet(0, 2, 60), 60);
        due("get(0, 2, 59) of a new one", x.get(0, 2, 59), 0);
        due("sheet(3, 1, 0)", x.sheet(3, 1, 0), 0);
        due("lose(3) of an empty one", x.lose(3), 0);

        promise = 31;
        for (int s : NO_SHEETS) due("lose(" + s + ")", x.lose(s), BAD);
        due("lose(0)", x.lose(0), 60);
        due("lose(0) of a LOST one", x.lose(0), NULL);
        due("count(8) behind NULL", x.count(8), 1);
        x.sheet(0, 2, 2);
        due("lose(0) of a later one", x.lose(0), 2);

        promise = 32;
        x.sheet(0, 0, 2);
        x.sheet(1, 1, 2);
        x.sheet(2, 2, 2);
        for (int s : NO_SHEETS) due("put(" + s + ", 0, 0, 1)", x.put(s, 0, 0, 1), BAD);
        due("put(0, -1, 0, 1)", x.put(0, -1, 0, 1), BAD);
        due("put(3, 3, 0, 1)", x.put(3, 3, 0, 1), BAD);
        due("put(3, 0, 9, 1) of a LOST one", x.put(3, 0, 9, 1), NULL);
        due("put(0, 1, 9, 1)", x.put(0, 1, 9, 1), CAST);
        due("count(8) behind CAST", x.count(8), 3);
        due("put(0, 0, 2, 1)", x.put(0, 0, 2, 1), INDEX);
        due("count(8) behind INDEX", x.count(8), 2);
        due("put(0, 0, -1, 1)", x.put(0, 0, -1, 1), INDEX);
        due("put(0, 0, 0, 384)", x.put(0, 0, 0, 384), 1);
        due("get(0, 0, 0) of 384", x.get(0, 0, 0), -128);
        due("put(1, 1, 1, 98304)", x.put(1, 1, 1, 98304), 1);
        due("get(1, 1, 1) of 98304", x.get(1, 1, 1), -32768);
        due("put(2, 2, 1, most)", x.put(2, 2, 1, Integer.MAX_VALUE), 1);
        due("get(2, 2, 1) of the most", x.get(2, 2, 1), Integer.MAX_VALUE);
        due("get(2, 2, 0) beside it", x.get(2, 2, 0), 0);

        promise = 33;
        x.lose(3);
        x.sheet(0, 0, -1);
        for (int s : NO_SHEETS) due("get(" + s + ", 0, 0)", x.get(s, 0, 0), LEAST);
        due("get(0, 3, 0)", x.get(0, 3, 0), LEAST);
        due("get(0, -1, 0)", x.get(0, -1, 0), LEAST);
        due("count(8) behind BAD", x.count(8), 5);
        due("get(3, 0, 0) of a LOST one", x.get(3, 0, 0), LEAST);
        due("count(8) behind it", x.count(8), 1);
        due("get(1, 0, 5)", x.get(1, 0, 5), LEAST);
        due("count(8) behind it", x.count(8), 3);
        due("get(1, 1, 2)", x.get(1, 1, 2), LEAST);
        due("count(8) behind it", x.count(8), 2);
        due("get(1, 1, -1)", x.get(1, 1, -1), LEAST);
        due("get(1, 1, 0)", x.get(1, 1, 0), 0);
        copies();
        written();
    }

    private static void row(DonkeyExecutor x, int s, int form, int... want) {
        for (int i = 0; i < want.length; i++) due("get(" + s + ", " + form + ", " + i + ")", x.get(s, form, i), want[i]);
    }

    private static void copies() {
        promise = 34;
        DonkeyExecutor x = new DonkeyExecutor();
        sheet(x, 0, 2, 1, 2, 3, 4, 5);
        sheet(x, 1, 2, 9, 9, 9);
        sheet(x, 2, 1, 9, 9, 9);
        for (int s : NO_SHEETS) {
            due("copy(" + s + ", 0, 0, 0, 1)", x.copy(s, 0, 0, 0, 1), BAD);
            due("copy(3, 0, " + s + ", 0, 1)", x.copy(3, 0, s, 0, 1), BAD);
        }
        due("copy from a LOST one", x.copy(3, 0, 0, 0, 1), NULL);
        due("copy to a LOST one", x.copy(0, 0, 3, 0, 1), NULL);
        due("copy to another FORM", x.copy(0, -1, 2, 0, 1), STORE);
        due("count(8) behind STORE", x.count(8), 4);
        due("copy(0, -1, 1, 0, 1)", x.copy(0, -1, 1, 0, 1), INDEX);
        due("count(8) behind INDEX", x.count(8), 2);
        due("copy(0, 0, 1, -1, 1)", x.copy(0, 0, 1, -1, 1), INDEX);
        due("copy(0, 0, 1, 0, -1)", x.copy(0, 0, 1, 0, -1), INDEX);
        due("copy(0, 3, 1, 0, 3)", x.copy(0, 3, 1, 0, 3), INDEX);
        due("copy(0, 0, 1, 1, 3)", x.copy(0, 0, 1, 1, 3), INDEX);
        due("copy(0, 0, 1, 0, 4)", x.copy(0, 0, 1, 0, 4), INDEX);
        due("copy(0, most, 1, 0, most)", x.copy(0, Integer.MAX_VALUE, 1, 0, Integer.MAX_VALUE), INDEX);
        due("copy(0, 6, 1, 0, 0)", x.copy(0, 6, 1, 0, 0), INDEX);
        due("copy(0, 0, 1, 4, 0)", x.copy(0, 0, 1, 4, 0), INDEX);
        row(x, 1, 2, 9, 9, 9);
        due("copy(0, 5, 1, 3, 0)", x.copy(0, 5, 1, 3, 0), 1);
        row(x, 1, 2, 9, 9, 9);
        due("copy(0, 3, 1, 1, 2)", x.copy(0, 3, 1, 1, 2), 1);
        row(x, 1, 2, 9, 4, 5);
        due("copy(0, 0, 0, 1, 4)", x.copy(0, 0, 0, 1, 4), 1);
        row(x, 0, 2, 1, 1, 2, 3, 4);
        due("copy(0, 2, 0, 0, 3)", x.copy(0, 2, 0, 0, 3), 1);
        row(x, 0, 2, 2, 3, 4, 3, 4);
        due("copy(0, 0, 3, 0, 5)", wholeCopy(x), 1);
        row(x, 3, 2, 2, 3, 4, 3, 4);
    }

    private static int wholeCopy(DonkeyExecutor x) {
        x.sheet(3, 2, 5);
        return x.copy(0, 0, 3, 0, 5);
    }

    private static void written() {
        promise = 35;
        DonkeyExecutor x = will("k60;k70;k80", "abc");
        sheet(x, 0, 2, 9, 9, 9, 9);
        for (int s : NO_SHEETS) due("write(0, " + s + ")", x.write(0, s), BAD);
        due("write(-1, 0)", x.write(-1, 0), BAD);
        due("write(4, 1)", x.write(4, 1), BAD);
        due("write(3, 1) to a LOST one", x.write(3, 1), NULL);
        row(x, 0, 2, 9, 9, 9, 9);
        due("write(2, 0)", x.write(2, 0), 3);
        row(x, 0, 2, 6, 7, 0, 9);
        due("write(3, 0)", x.write(3, 0), 3);
        row(x, 0, 2, 6, 7, 8, 9);
        x.sheet(1, 1, 2);
        due("write(3, 1)", x.write(3, 1), 2);
        row(x, 1, 1, 6, 7);
        x.sheet(1, 1, 0);
        due("write(3, 1) to an empty one", x.write(3, 1), 0);
        x = will("k90", "aaaaaaaaaaaaaaaaaaaa");
        x.sheet(0, 0, 1);
        due("write(20, 0)", x.write(20, 0), 1);
        row(x, 0, 0, (byte) 180);
        x.sheet(0, 1, 1);
        due("write(20, 0) of shorts", x.write(20, 0), 1);
        row(x, 0, 1, 180);
        x.wipe(0);
        due("write(20, 0) of nobody", x.write(20, 0), 0);
        row(x, 0, 1, 180);
    }

    // ---- promises 36 and 37

    private static void theCountsAndTheDigest() {
        promise = 36;
        DonkeyExecutor x = will("k90;k00;k00;k90", "abbdcaa");
        x.fly(3);
        x.fly(4);
        x.seen(0, 0);
        x.lose(2);
        // a brays thrice, d once; b and c are kicked once each
        int[] want = {4, 7, 15, 7, 2, 2, 4, 1, 1};
        for (int what = 0; what <= 8; what++) due("count(" + what + ")", x.count(what), want[what]);
        due("count(9)", x.count(9), BAD);
        due("count(-1)", x.count(-1), BAD);
        x.set(1, 9);
        // d is kicked with its field to be, a brays on
        due("count(5) by FEAR 9", x.count(5), 3);
        due("count(6) by FEAR 9", x.count(6), 3);
        x.type(0, 'x');
        due("count(0) with a FAULT", x.count(0), 0);
        due("count(2) with a FAULT", x.count(2), 16);
        due("count(1) beside a FAULT", x.count(1), 7);

        promise = 37;
        x = new DonkeyExecutor();
        long[] none = {0, 0, 0, 0, 0, 0, 0, 0, -1, -1, 0, 0, -1, -1, 0, -1, -1, -1, -1, 0, 0, 0};
        due("digest() of a new object", x.digest(), mixed(none));
        x = will("k60", "a");
        x.seen(0, 3);
        long[] one = {1, 1, 3, 1, 0, 0, 0, 1, -1, -1,
            0, 6, 0, 6, 0, 0, 0, 3, -1, -1, 0b111, 0b111101000, 0, 1, 1,
            0, 3, 0, 5, 6, 0,
            0, 6, 0, 0, 0, 6, 0, -1, -1, 0, 90, 0};
        due("digest() of one heir at one stop", x.digest(), mixed(one));
        due("digest() once more", x.digest(), mixed(one));
        x.lose(0);
        due("digest() behind a FINDING", x.digest(), mixed(one));
        asItsParts(fled("k54;s62;m24;k39", "abcdabcdhd", 1, 2, 7));
        asItsParts(fled("s55;m37", "abababba", 0, 1, 5, 5));
        asItsParts(fled("k31;k40;s52", "abcabcacb", 1, 4, 6));
        // kicked at the fifteenth or the sixteenth lot alone
        asItsParts(fled("k60", "aa", 14, 14));
        asItsParts(fled("k30", "aa", 14));
        asItsParts(fled("k30", "aa", 15));
        asItsParts(fled("k30;k90;k90", "aa", 14, 13));
        asItsParts(fled("k90;k30;k90", "aa", 14, 13));
        asItsParts(fled("k90;k90;k30", "aa", 14, 13));
        asItsParts(fled("k91;m52;s73;k44;m65;s86;k17;m38", "abcdefghhgfedcbaaceg", 0, 3, 7, 9, 12, 19));
    }

    private static DonkeyExecutor fled(String heirs, String round, int... flies) {
        DonkeyExecutor x = will(heirs, round);
        for (int stop : flies) x.fly(stop);
        x.seen(1, x.does(1, 0));
        return x;
    }

    private static void asItsParts(DonkeyExecutor x) {
        java.util.List<Long> all = new java.util.ArrayList<>();
        for (int w = 0; w <= 7; w++) all.add((long) x.count(w));
        all.add((long) x.fault(0));
        all.add((long) x.fault(1));
        for (int h = 0; h < x.count(0); h++) {
            for (int w = 0; w <= 2; w++) all.add((long) x.heir(h, w));
            for (int w = 0; w <= 2; w++) all.add((long) x.share(x.count(1), h, w));
            for (int v : new int[] {x.bait(h), x.care(h), x.skip(h, 0), x.skip(h, 1)}) all.add((long) v);
            for (int v : new int[] {x.was(h, 0), x.was(h, 1), x.ask(h)}) all.add((long) v);
            all.add(x.swarm(5, h, 0));
            all.add(x.swarm(5, h, 1));
        }
        for (int s = 0; s < x.count(1); s++) {
            all.add((long) x.round(s));
            for (int w = 0; w <= 3; w++) all.add((long) x.does(s, w));
            for (int h = 0; h < x.count(0); h++) all.add((long) x.share(s, h, 0));
        }
        for (int v : new int[] {x.out(), x.estate(), x.richest(), x.longest(), x.ditch()}) all.add((long) v);
        for (int w = 0; w <= 3; w++) all.add((long) x.fair(w));
        for (int v : new int[] {x.never(), x.again(7, 15, 0), x.again(7, 15, 1)}) all.add((long) v);
        due("digest() as its parts", x.digest(), mixed(all.stream().mapToLong(v -> v).toArray()));
    }

    private static long mixed(long[] all) {
        long h = 17;
        for (long v : all) h = 31 * h + v;
        return h;
    }
}
