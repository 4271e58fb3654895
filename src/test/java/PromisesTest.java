/** The document's promises one by one, with answers that were worked out by hand. */
public final class PromisesTest extends Checks {
    private static final String MASKS = SMALL + ";mask 0 1;mask 1 2;mask 0 2;mask 0 1 2";
    private static final String STAR = "bench doubled 3 dark 0 top 999;light 0 9;light 1 4"
            + ";mask 0 1;mask 0 2;mask 0 3;mask 0 4;mask 0 5;mask 0 6;mask 1 2 3 4 5 6";

    public static void main(String[] args) {
        newObject();
        withoutBench();
        feed();
        bench();
        goodTexts();
        faults();
        many();
        faultAndWhere();
        about();
        plates();
        sets();
        colours();
        looks();
        log();
        scans();
        blinds();
        readings();
        lostOnes();
        backs();
        backsBelowNothing();
        errors();
        bigErrors();
        shares();
        alone();
        suspects();
        suspectsByLog();
        suspectsByBounds();
        suspectsRefused();
        masks();
        solved();
        factors();
        tours();
        signs();
        shine();
        stick();
        lose();
        undo();
        stuck();
        sizes();
        trouble();
        end("all promises are kept");
    }

    private static void newObject() {
        promise = 1;
        WeighingPlates x = new WeighingPlates();
        due("trouble()", x.trouble(), 0);
        due("fault()", x.fault(), 0);
        due("where()", x.where(), -1);
        for (int what = 0; what < 6; what++) {
            due("size", x.size(what), 0);
        }
        due("about(0)", x.about(0), -1, x, 1);
    }

    private static void withoutBench() {
        promise = 1;
        WeighingPlates x = new WeighingPlates();
        int full = 5;
        for (int j = -1; j <= full; j++) {
            x.sign(0, 0, 0);
            due("plate", x.plate(j), -1, x, 1);
            x.sign(0, 0, 0);
            due("common", x.common(j, 0), -1, x, 1);
            x.sign(0, 0, 0);
            due("which", x.which(j), -1, x, 1);
            x.sign(0, 0, 0);
            due("odd", x.odd(j), -1, x, 1);
            x.sign(0, 0, 0);
            due("look", x.look(j), -1, x, 1);
            x.sign(0, 0, 0);
            due("back", x.back(j, true), LOWEST, x, 1);
            x.sign(0, 0, 0);
            due("shine", x.shine(j, 99999), -1, x, 1);
            x.sign(0, 0, 0);
            due("stick", x.stick(j, 9), -1, x, 1);
            x.sign(0, 0, 0);
            due("lose", x.lose(j), -1, x, 1);
            x.sign(0, 0, 0);
            due("suspect", x.suspect(j), -1, x, 1);
            x.sign(0, 0, 0);
            due("tourAt", x.tourAt(j), -1, x, 1);
            x.sign(0, 0, 0);
            due("solved", x.solved(j, false), LOWEST, x, 1);
        }
    }

    private static void feed() {
        promise = 2;
        WeighingPlates x = new WeighingPlates();
        x.about(0);
        for (int i = 1; i <= 40; i++) {
            due("feed", x.feed(0x20202020, 0x20202020, 0x20202020, 0x20202020, 0x20202020), 20 * i);
        }
        due("a feed too many", x.feed(0, 0, 0, 0, 0), -1);
        due("size(5)", x.size(5), 800);
        due("trouble, of about still", x.trouble(), 1);
        due("800 blanks", x.bench(800), -1, x, 4);
        due("the end", x.where(), 800);
        due("feed again", x.feed(0x62656e63, 0x6820646f, 0x75626c65, 0x64203220, 0x6461726b), 20);
        due("feed again", x.feed(0x20302074, 0x6f702039, 0x80ff0020, 0, 0), 40);
        due("bytes from the highest", x.bench(28), 3, x, 0);
        give(x, "bench \200");
        due("a byte above 127", x.bench(7), -1, x, 4);
        due("its place", x.where(), 6);
    }

    private static void bench() {
        promise = 3;
        WeighingPlates x = of(SMALL);
        x.shine(0, 11);
        x.look(7);
        x.scan();
        give(x, BARE + " ");
        due("bench(-1)", x.bench(-1), -1, x, 2);
        due("bench(41)", x.bench(41), -1, x, 2);
        due("bench(MIN)", x.bench(LOW), -1, x, 2);
        due("the tape stays", x.size(5), 40);
        due("bench(10)", x.bench(10), -1, x, 4);
        due("the tape is empty", x.size(5), 0);
        due("the bench stays", x.about(2), 5, x, 0);
        due("its scan", x.size(3), 1);
        due("its log", x.size(2), 1);
        due("its acts", x.size(4), 1);
        due("its beams", x.about(6), 4);
        due("its light", x.light(0), 11);
        x.stick(2, 1);
        x.lose(1);
        x.shine(2, 5000);
        x.look(7);
        due("blinded", x.about(8), 1);
        due("a new bench", put(x, "bench squares 7 dark 0 top 9"), 7, x, 0);
        due("no scan", x.size(3), 0);
        due("log empty", x.size(2), 0);
        due("nothing to undo", x.size(4), 0);
        due("undo", x.undo() ? 1 : 0, 0, x, 1);
        due("no beam", x.about(6), 0);
        due("none blinded", x.about(8), 0);
        due("no light", x.about(4), 0);
        due("none lost", x.size(1), 0);
        due("none stuck", x.shutter(2), 0);
        due("no masks", x.size(0), 0);
        put(x, MASKS + ";noise 1 plus 2");
        put(x, BARE);
        due("no masks", x.size(0), 0);
        due("no noise", x.noise(1), 0);
        due("no rank", x.rank(), 0);
        due("none told", x.told(), 0);
        due("no tour", x.tour(), 0);
    }

    private static void goodTexts() {
        promise = 3;
        for (int k = 2; k <= 5; k++) {
            good("bench doubled " + k + " dark 999 top 999999", (1 << k) - 1);
        }
        for (int prime : new int[] {3, 7, 11, 19, 23, 31}) {
            good("bench squares " + prime + " dark 0 top 1", prime);
        }
        good("  bench   doubled 000002 dark 000 top 000009  ", 3);
        good("bench doubled2dark0top9;light0 1;stuck 0open;noise 0less3;lost0;mask0 1", 3);
        good(BARE + " ; light 0 9999 ; light 1 0", 3);
        good(BARE + ";mask 0;mask 0;mask 0 1 2", 3);
        good(BARE + ";stuck 0 open;light 0 1;noise 0 plus 99;lost 0;noise 1 less 1", 3);
        WeighingPlates x = of(BARE + ";light 000001 000007");
        due("light(1)", x.light(1), 7);
    }

    private static void faults() {
        promise = 4;
        String form = "bench doubled 2 dark 0 top 9";
        int[] ends = {0, 5, 6, 13, 14, 15, 16, 20, 21, 22, 23, 26, 27};
        for (int end : ends) {
            bad(form.substring(0, end), 1, end);
        }
        bad("   ", 1, 3);
        bad("Bench", 1, 0);
        bad("benchx doubled", 1, 0);
        bad("benchmarks", 1, 0);
        bad(" 3", 1, 1);
        bad(";" + BARE, 1, 0);
        bad("bench dark", 1, 6);
        bad("bench doubleds 2", 1, 6);
        bad("bench doubled two", 1, 14);
        bad("bench doubled 2 top 1", 1, 16);
        bad("bench doubled 2 dark 0 dark", 1, 23);
        bad("bench\tdoubled", 1, 5);
        bad("bench doubled 2 dark 0 top 1000000", 1, 27);
        bad(BARE + ";", 1, 29);
        bad(BARE + "; ", 1, 30);
        bad(BARE + ";;", 1, 29);
        bad(BARE + " light 0 1", 1, 29);
        bad(BARE + ";dark", 1, 29);
        bad(BARE + ";light 0", 1, 36);
        bad(BARE + ";light 0;", 1, 36);
        bad(BARE + ";light open", 1, 35);
        bad(BARE + ";light 0000001 1", 1, 35);
        bad(BARE + ";light 0 1 2", 1, 39);
        bad(BARE + ";stuck 0 on", 1, 37);
        bad(BARE + ";stuck 0 plus", 1, 37);
        bad(BARE + ";stuck open", 1, 35);
        bad(BARE + ";noise 0 open", 1, 37);
        bad(BARE + ";noise 0 plus", 1, 41);
        bad(BARE + ";noise 0 plus less", 1, 42);
        bad(BARE + ";lost", 1, 33);
        bad(BARE + ";lost 0 1", 1, 36);
        bad(BARE + ";mask", 1, 33);
        bad(BARE + ";mask ;", 1, 34);
        bad(BARE + ";mask 0 open", 1, 36);
        bad(BARE + ";mask 0 -", 1, 36);
        bad("bench doubled 1", 2, 14);
        bad("bench doubled 6 dark", 2, 14);
        bad("bench squares 5", 2, 14);
        bad("bench squares 2", 2, 14);
        bad("bench squares 43 x", 2, 14);
        bad("bench doubled 2 dark 1000", 2, 21);
        bad("bench doubled 2 dark 0 top 0", 2, 27);
        bad(BARE + ";light 3 x", 2, 35);
        bad(BARE + ";light 0 10000", 2, 37);
        bad(BARE + ";stuck 3", 2, 35);
        bad(BARE + ";noise 3", 2, 35);
        bad(BARE + ";noise 0 less 0", 2, 42);
        bad(BARE + ";noise 0 plus 100", 2, 42);
        bad(BARE + ";lost 3", 2, 34);
        bad(BARE + ";mask 0 3", 2, 36);
        bad(BARE + ";mask 999999", 2, 34);
        bad(BARE + ";bench", 3, 29);
        bad(BARE + ";light 0 0;light 0", 3, 45);
        bad(BARE + ";stuck 0 open;stuck 0 shut", 3, 48);
        bad(BARE + ";noise 0 plus 1;noise 0 less 1", 3, 50);
        bad(BARE + ";lost 1;lost 1", 3, 41);
        bad(BARE + ";mask 0 1 0", 3, 38);
        bad("light 0 1", 5, 0);
        bad("  stuck;", 5, 2);
        bad("noise", 5, 0);
        bad("lost 0;" + BARE, 5, 0);
        bad(" mask x", 5, 1);
    }

    private static void many() {
        promise = 4;
        String eleven = "bench squares 11 dark 0 top 9";
        String three = ";stuck 0 open;stuck 1 shut;stuck 2 open";
        good(eleven + three, 11);
        bad(eleven + three + ";stuck 2 open", 4, 69);
        three = ";lost 0;lost 1;lost 2";
        good(eleven + three, 11);
        bad(eleven + three + "; lost 0", 4, 52);
        StringBuilder noises = new StringBuilder(eleven);
        StringBuilder masks = new StringBuilder(eleven);
        for (int i = 0; i < 8; i++) {
            noises.append(";noise ").append(i).append(" plus 1");
        }
        for (int i = 0; i < 12; i++) {
            masks.append(";mask ").append(i % 11);
        }
        good(noises.toString(), 11);
        bad(noises + ";noise 8 plus 1", 4, noises.length() + 1);
        good(masks.toString(), 11);
        bad(masks + ";mask", 4, masks.length() + 1);
        StringBuilder lights = new StringBuilder(eleven);
        for (int i = 10; i >= 0; i--) {
            lights.append(";light ").append(i).append(" 5");
        }
        good(lights.toString(), 11);
        bad(lights + ";light 4 4", 3, lights.length() + 7);
    }

    private static void faultAndWhere() {
        promise = 5;
        WeighingPlates x = new WeighingPlates();
        put(x, "bench squares 4");
        due("fault()", x.fault(), 2);
        due("where()", x.where(), 14);
        x.feed(0, 0, 0, 0, 0);
        x.size(0);
        due("stuck", isStuck(x, 0), THROWN);
        due("where() behind calls that aren't refused by a number", x.where(), 14);
        due("trouble()", x.trouble(), 4);
        x.bench(21);
        due("trouble()", x.trouble(), 2);
        due("where()", x.where(), -1);
        due("fault() stays", x.fault(), 2);
        x.bench(1);
        due("fault()", x.fault(), 1);
        due("where()", x.where(), 0);
        x.sign(0, 0, 0);
        due("where() behind a call that isn't refused", x.where(), -1);
        due("fault() stays", x.fault(), 1);
        put(x, BARE);
        due("fault()", x.fault(), 0);
        due("where()", x.where(), -1);
    }

    private static void about() {
        promise = 6;
        WeighingPlates x = of("bench squares 11 dark 7 top 400;light 3 100;light 4 200;stuck 4 shut;stuck 3 open");
        long[] want = {11, 1, 7, 400, 300, 6, 0, 0, 0};
        for (int what = 0; what < 9; what++) {
            due("about(" + what + ")", x.about(what), want[what], x, 0);
        }
        due("about(-1)", x.about(-1), -1, x, 1);
        due("about(9)", x.about(9), -1, x, 1);
        x.look(0);
        x.shine(3, 500);
        x.look(0);
        x.scan();
        due("beams", x.about(6), 3);
        due("open beams", x.about(7), 0);
        due("blinded", x.about(8), 2);
        x.undo();
        x.scan();
        due("beams", x.about(6), 14);
        due("kind", of(BARE).about(1), 0);
        due("half", of("bench doubled 5 dark 0 top 9").about(5), 16);
    }

    private static void plates() {
        promise = 7;
        WeighingPlates x = of("bench squares 7 dark 0 top 9");
        int[] seven = {23, 75, 101, 114, 57, 92, 46};
        for (int i = 0; i < 7; i++) {
            due("plate(" + i + ")", x.plate(i), seven[i], x, 0);
        }
        due("plate(-1)", x.plate(-1), -1, x, 1);
        due("plate(7)", x.plate(7), -1, x, 1);
        WeighingPlates y = of("bench doubled 5 dark 0 top 9");
        due("plate(0)", y.plate(0), 0x55555555);
        due("plate(15)", y.plate(15), 0x7fff8000);
        promise = 8;
        due("common(0, 6)", x.common(0, 6), 2, x, 0);
        due("common(3, 3)", x.common(3, 3), 4, x, 0);
        due("common(0, 7)", x.common(0, 7), -1, x, 1);
        due("common(-1, 0)", x.common(-1, 0), -1, x, 1);
        due("common(30, 2)", y.common(30, 2), 8, y, 0);
        promise = 10;
        due("apart(2)", x.apart(2), 4, x, 0);
        due("apart(30)", y.apart(30), 16, y, 0);
        due("apart(31)", y.apart(31), -1, y, 1);
        due("apart(-1)", y.apart(-1), -1, y, 1);
    }

    private static void sets() {
        promise = 9;
        WeighingPlates x = of("bench squares 7 dark 0 top 9");
        due("which(92)", x.which(92), 5, x, 0);
        due("which(127)", x.which(127), -2, x, 0);
        due("which(128)", x.which(128), -1, x, 2);
        due("which(-1)", x.which(-1), -1, x, 2);
        WeighingPlates y = of("bench doubled 5 dark 0 top 9");
        due("which(MAX)", y.which(Integer.MAX_VALUE), -2, y, 0);
        due("which(MIN)", y.which(LOW), -1, y, 2);
        due("which(0x7fff8000)", y.which(0x7fff8000), 15, y, 0);
        promise = 11;
        due("odd(0)", x.odd(0), 0, x, 0);
        due("odd(3)", x.odd(3), 23 ^ 75, x, 0);
        due("odd(64)", x.odd(64), 46, x, 0);
        due("odd(128)", x.odd(128), -1, x, 2);
        due("odd(-1)", x.odd(-1), -1, x, 2);
        due("odd(MAX)", y.odd(Integer.MAX_VALUE), 0, y, 0);
    }

    private static void colours() {
        WeighingPlates x = of(BARE + ";light 2 8;stuck 0 open;stuck 1 shut;noise 0 less 99;noise 2 plus 5;lost 1");
        promise = 12;
        due("light(2)", x.light(2), 8, x, 0);
        due("light(1)", x.light(1), 0, x, 0);
        due("light(3)", x.light(3), -1, x, 1);
        due("light(-1)", x.light(-1), -1, x, 1);
        promise = 13;
        due("shutter(0)", x.shutter(0), 1, x, 0);
        due("shutter(1)", x.shutter(1), 2, x, 0);
        due("shutter(2)", x.shutter(2), 0, x, 0);
        due("shutter(3)", x.shutter(3), -1, x, 1);
        promise = 14;
        due("noise(0)", x.noise(0), -99, x, 0);
        due("noise(1)", x.noise(1), 0, x, 0);
        due("noise(2)", x.noise(2), 5, x, 0);
        due("noise(3)", x.noise(3), LOW, x, 1);
        due("noise(-1)", x.noise(-1), LOW, x, 1);
        promise = 15;
        due("lost(1)", x.lost(1), 1, x, 0);
        due("lost(0)", x.lost(0), 0, x, 0);
        due("lost(3)", x.lost(3), -1, x, 1);
        due("lost(-1)", x.lost(-1), -1, x, 1);
    }

    private static void looks() {
        promise = 16;
        WeighingPlates x = of("bench doubled 2 dark 5 top 35;light 0 10;light 1 20;light 2 4;stuck 2 open;stuck 0 shut;noise 0 plus 9");
        due("look(0)", x.look(0), 9, x, 0);
        due("look(1)", x.look(1), 9, x, 0);
        due("look(2)", x.look(2), 29, x, 0);
        due("look(7)", x.look(7), 29, x, 0);
        due("look(8)", x.look(8), -1, x, 2);
        due("look(-8)", x.look(-8), -1, x, 2);
        due("beams", x.about(6), 4);
        x.shine(2, 10);
        due("a look that is just as much as top", x.look(2), 35, x, 0);
        x.shine(2, 11);
        due("a look that is more", x.look(2), -1, x, 5);
        due("is no look of the log", x.size(2), 0);
        due("opens a beam", x.about(6), 6);
        due("is blinded", x.about(8), 1);
        WeighingPlates y = of("bench doubled 5 dark 1 top 999999;light 30 9999;light 0 1");
        due("look(MAX)", y.look(Integer.MAX_VALUE), 10001, y, 0);
        due("look(-1)", y.look(-1), -1, y, 2);
    }

    private static void log() {
        promise = 17;
        WeighingPlates x = of(SMALL);
        due("logged(0, 0)", x.logged(0, 0), -1, x, 1);
        x.look(1);
        x.look(4);
        x.scan();
        due("logged(0, 0)", x.logged(0, 0), 4, x, 0);
        due("logged(0, 1)", x.logged(0, 1), 9, x, 0);
        due("logged(1, 0)", x.logged(1, 0), 1, x, 0);
        due("logged(1, 1)", x.logged(1, 1), 15, x, 0);
        due("logged(2, 0)", x.logged(2, 0), -1, x, 1);
        due("logged(-1, 0)", x.logged(-1, 0), -1, x, 1);
        due("logged(0, 2)", x.logged(0, 2), -1, x, 1);
        due("logged(0, -1)", x.logged(0, -1), -1, x, 1);
        for (int i = 0; i < 19; i++) {
            x.look(7);
        }
        due("size(2)", x.size(2), 20);
        due("the oldest kept", x.logged(19, 0), 4);
        x.look(2);
        due("the latest", x.logged(0, 1), 25);
        due("the oldest kept", x.logged(19, 0), 7);
        due("logged(20, 0)", x.logged(20, 0), -1, x, 1);
        due("size(2)", x.size(2), 20);
        x.stick(0, 0);
        due("logged(0, 0)", x.logged(0, 0), -1, x, 1);
    }

    private static void scans() {
        promise = 18;
        WeighingPlates x = of("bench doubled 2 dark 0 top 50;light 0 10;light 1 20;light 2 30;noise 1 plus 9");
        due("scan()", x.scan(), 3, x, 0);
        due("noise comes behind top", x.reading(1), 59);
        due("nothing in the log", x.size(2), 0);
        x.shine(2, 31);
        due("scan()", x.scan(), -1, x, 5);
        due("no scan", x.size(3), 0);
        due("two looks", x.about(6), 5);
        due("one blinded", x.about(8), 1);
        x.lose(1);
        due("scan()", x.scan(), 2, x, 0);
        x.lose(0);
        x.lose(2);
        due("scan of nothing", x.scan(), 0, x, 0);
        due("size(3)", x.size(3), 1);
        due("beams", x.about(6), 7);
    }

    private static void blinds() {
        promise = 19;
        WeighingPlates x = of("bench squares 7 dark 0 top 50;light 5 51");
        due("blinds()", x.blinds(), 2, x, 0);
        x.lose(0);
        due("blinds()", x.blinds(), 1, x, 0);
        x.shine(5, 50);
        due("blinds()", x.blinds(), -2, x, 0);
        due("no beams", x.about(6), 0);
        x.stick(5, 1);
        x.shine(5, 51);
        due("blinds()", x.blinds(), 0, x, 0);
        due("none blinded", x.about(8), 0);
    }

    private static void readings() {
        promise = 20;
        WeighingPlates x = of(SMALL + ";noise 0 less 20;noise 1 plus 2");
        due("reading(0)", x.reading(0), LOW, x, 5);
        due("reading(3)", x.reading(3), LOW, x, 1);
        x.scan();
        due("reading(0)", x.reading(0), -1, x, 0);
        due("reading(1)", x.reading(1), 31, x, 0);
        due("reading(2)", x.reading(2), 35, x, 0);
        due("reading(-1)", x.reading(-1), LOW, x, 1);
        promise = 21;
        due("net(0)", x.net(0), -6, x, 0);
        due("net(1)", x.net(1), 26, x, 0);
        due("net(3)", x.net(3), LOW, x, 1);
        x.shine(0, 0);
        due("net(0)", x.net(0), LOW, x, 5);
        due("net(3)", x.net(3), LOW, x, 1);
    }

    private static void lostOnes() {
        promise = 21;
        WeighingPlates x = of(SMALL + ";lost 1;noise 1 plus 50;noise 2 less 1");
        x.scan();
        due("reading of a lost one", x.reading(1), LOW, x, 5);
        due("net of the lost one", x.net(1), 25, x, 0);
        due("back(1)", x.back(1, false), 20, x, 0);
        due("back(2)", x.back(2, false), 5, x, 0);
        due("grains", x.grains(false), 17, x, 0);
        due("suspects", x.suspects(), -1, x, 5);
        x.lose(0);
        x.scan();
        due("net of one that isn't lost", x.net(2), 29, x, 0);
        due("net of one of two", x.net(1), LOW, x, 5);
        due("net of one of two", x.net(0), LOW, x, 5);
        due("back", x.back(0, false), LOWEST, x, 5);
        due("back of none", x.back(3, false), LOWEST, x, 1);
        due("odds", x.odds(), -1, x, 5);
        due("more", x.more(false), LOWEST, x, 5);
        due("error", x.error(0, false), LOWEST, x, 5);
        due("error of none", x.error(-1, false), LOWEST, x, 1);
        due("errors", x.errors(false), LOWEST, x, 5);
        due("worst", x.worst(), -1, x, 5);
        due("grains", x.grains(false), LOWEST, x, 5);
        due("better", x.better(), -1, x, 5);
        due("closer", x.closer(), -1, x, 5);
        due("share", x.share(false), 3, x, 0);
        due("alone", x.alone(1), 70, x, 0);
        due("alones", x.alones(), 2501, x, 0);
    }

    private static void backs() {
        WeighingPlates x = of(SMALL + ";noise 1 plus 1");
        promise = 22;
        due("back without a scan", x.back(0, true), LOWEST, x, 5);
        due("back of none without a scan", x.back(3, true), LOWEST, x, 1);
        due("odds without a scan", x.odds(), -1, x, 5);
        x.scan();
        due("back(0)", x.back(0, false), 19, x, 0);
        due("back(0) lower", x.back(0, true), 2, x, 0);
        due("back(1)", x.back(1, false), 41);
        due("back(2)", x.back(2, false), 9);
        due("back(-1)", x.back(-1, false), LOWEST, x, 1);
        promise = 23;
        due("odds()", x.odds(), 7, x, 0);
        promise = 24;
        due("more", x.more(false), 1, x, 0);
        due("more lower", x.more(true), 2, x, 0);
        promise = 25;
        due("error(0)", x.error(0, false), -1, x, 0);
        due("error(0) lower", x.error(0, true), 2, x, 0);
        due("error(2)", x.error(2, false), 1, x, 0);
        due("error(3)", x.error(3, false), LOWEST, x, 1);
        promise = 26;
        due("errors", x.errors(false), 3, x, 0);
        due("errors lower", x.errors(true), 4, x, 0);
        promise = 27;
        due("worst", x.worst(), 0, x, 0);
        promise = 29;
        due("grains", x.grains(false), 69, x, 0);
        due("grains lower", x.grains(true), 4, x, 0);
        promise = 30;
        due("better", x.better(), 2, x, 0);
        promise = 33;
        due("closer", x.closer(), 2, x, 0);
    }

    private static void backsBelowNothing() {
        WeighingPlates x = of(BARE + ";noise 0 less 4");
        x.scan();
        promise = 22;
        due("back(0)", x.back(0, false), -2);
        due("back(0) lower", x.back(0, true), 1);
        due("back(1)", x.back(1, false), 2);
        promise = 23;
        due("odds", x.odds(), 5);
        promise = 24;
        due("more", x.more(false), -2);
        due("more lower", x.more(true), 1);
        promise = 29;
        due("grains", x.grains(false), -1);
        promise = 30;
        due("better", x.better(), 2);
        promise = 33;
        due("closer", x.closer(), 1);
        WeighingPlates y = of(BARE);
        y.scan();
        promise = 30;
        due("not less is not better", y.better(), 0, y, 0);
        due("not less is not closer", y.closer(), 0, y, 0);
        due("no odds", y.odds(), 0, y, 0);
        due("nothing by one", y.back(2, true), 1, y, 0);
        due("nothing by one", y.grains(true), 1, y, 0);
    }

    private static void errors() {
        promise = 27;
        WeighingPlates x = of(SMALL + ";stuck 2 open");
        x.scan();
        due("back(0)", x.back(0, false), 12);
        due("back(1)", x.back(1, false), 22);
        due("back(2)", x.back(2, false), 2);
        due("worst", x.worst(), 0);
        due("errors", x.errors(false), 12);
        due("more", x.more(false), 2);
        x.stick(2, 2);
        x.scan();
        due("worst", x.worst(), 2);
        due("error(2)", x.error(2, false), -4);
        due("errors", x.errors(false), 16);
        due("more", x.more(false), -4);
        x.stick(2, 0);
        x.scan();
        due("worst of none", x.worst(), 0);
    }

    private static void bigErrors() {
        promise = 26;
        StringBuilder text = new StringBuilder("bench doubled 5 dark 999 top 999999;lost 0");
        for (int j = 0; j < 31; j++) {
            text.append(";light ").append(j).append(" 9999");
        }
        WeighingPlates x = of(text.toString());
        due("monitor", x.about(4), 309969);
        due("scan", x.scan(), 30);
        due("reading", x.reading(30), 160983);
        due("back", x.back(30, false), 9999);
        due("errors", x.errors(false), 0);
        for (int j = 0; j < 31; j++) {
            x.stick(j, 1);
        }
        due("alones", x.alones(), 31L * 299970 * 299970);
        due("scan", x.scan(), 30);
        due("net of the lost one", x.net(0), -14 * 309969);
        due("back(0)", x.back(0, false), -7 * 309969);
        due("back(0) lower", x.back(0, true), 8);
        due("back(1)", x.back(1, false), 309969);
        due("errors", x.errors(false), 2249775L * 2249775 + 60L * 299970 * 299970);
        due("errors lower", x.errors(true), 4);
        due("odds", x.odds(), 0x55555555);
        due("closer", x.closer(), 0x55555555);
    }

    private static void shares() {
        promise = 28;
        WeighingPlates x = of("bench squares 7 dark 0 top 9");
        due("share", x.share(false), 7, x, 0);
        due("share lower", x.share(true), 16, x, 0);
        due("share of 31", of("bench squares 31 dark 0 top 9").share(false), 31);
        due("share of 31 lower", of("bench squares 31 dark 0 top 9").share(true), 256);
    }

    private static void alone() {
        promise = 31;
        WeighingPlates x = of("bench doubled 2 dark 5 top 6;light 0 10;light 1 20;light 2 4;stuck 2 open;stuck 0 shut"
                + ";noise 0 less 30;noise 1 plus 1;lost 1");
        due("alone(0)", x.alone(0), -26, x, 0);
        due("alone(1)", x.alone(1), 25, x, 0);
        due("alone(2)", x.alone(2), 4, x, 0);
        due("alone(3)", x.alone(3), LOW, x, 1);
        due("alone(-1)", x.alone(-1), LOW, x, 1);
        promise = 32;
        due("alones", x.alones(), 36 * 36 + 25, x, 0);
        due("no beam", x.about(6), 0);
    }

    private static void suspects() {
        promise = 34;
        WeighingPlates x = of(SMALL + ";stuck 0 shut");
        x.scan();
        due("suspects", x.suspects(), 1, x, 0);
        promise = 35;
        due("suspect(0)", x.suspect(0), 2, x, 0);
        due("suspect(1)", x.suspect(1), -1, x, 1);
        due("suspect(-1)", x.suspect(-1), -1, x, 1);
        promise = 36;
        due("supposed(0, 0)", x.supposed(0, 0), 10, x, 0);
        due("supposed(0, 1)", x.supposed(0, 1), 20, x, 0);
        due("supposed(0, 2)", x.supposed(0, 2), 4, x, 0);
        due("supposed(1, 0)", x.supposed(1, 0), -1, x, 1);
        due("supposed(-1, 0)", x.supposed(-1, 0), -1, x, 1);
        due("supposed(0, 3)", x.supposed(0, 3), -1, x, 1);
        due("supposed(0, -1)", x.supposed(0, -1), -1, x, 1);
        WeighingPlates y = of("bench squares 7 dark 3 top 999;light 6 16;light 1 9;stuck 6 open");
        y.scan();
        promise = 34;
        // A colour without light could be the one that is stuck open, with the light of the other.
        int[] numbers = {1, 5, 7, 9, 11, 13};
        due("suspects", y.suspects(), 6, y, 0);
        for (int i = 0; i < 6; i++) {
            due("suspect(" + i + ")", y.suspect(i), numbers[i], y, 0);
            due("its light", y.supposed(i, (numbers[i] - 1) / 2), 16, y, 0);
            due("another light", y.supposed(i, 1), 9, y, 0);
        }
        due("no light", y.supposed(5, 0), 0, y, 0);
        y.stick(6, 0);
        y.scan();
        due("suspects of a fine bench", y.suspects(), 11);
        due("none", y.suspect(0), 0);
    }

    private static void suspectsByLog() {
        promise = 34;
        WeighingPlates x = of(SMALL + ";noise 0 plus 4;noise 1 less 4");
        x.scan();
        due("suspects by errors", x.suspects(), 1, x, 0);
        due("suspect(0)", x.suspect(0), 0);
        due("supposed(0, 0)", x.supposed(0, 0), 14);
        due("supposed(0, 1)", x.supposed(0, 1), 16);
        x.look(4);
        x.look(7);
        due("suspects by looks that fit", x.suspects(), 1);
        x.look(1);
        due("suspects by a look that doesn't", x.suspects(), 0, x, 0);
        due("suspect(0)", x.suspect(0), -1, x, 1);
        due("supposed(0, 0)", x.supposed(0, 0), -1, x, 1);
    }

    private static void suspectsByBounds() {
        promise = 34;
        WeighingPlates x = of("bench doubled 2 dark 0 top 99999;light 0 9999;light 1 9999;light 2 5;stuck 0 shut;stuck 1 shut");
        x.scan();
        due("a light of 19998", x.suspects(), 0, x, 0);
        x.shine(1, 0);
        x.scan();
        due("a light of 9999", x.suspects(), 2);
        due("suspect(0)", x.suspect(0), 2);
        due("suspect(1)", x.suspect(1), 4);
        due("supposed(1, 1)", x.supposed(1, 1), 9999);
        WeighingPlates y = of(SMALL + ";noise 1 plus 1");
        y.scan();
        due("no wholes", y.suspects(), 0, y, 0);
        WeighingPlates z = of(SMALL + ";noise 1 plus 2");
        z.scan();
        due("not the monitor's sum", z.suspects(), 0, z, 0);
    }

    private static void suspectsRefused() {
        promise = 34;
        WeighingPlates x = of(SMALL);
        due("suspects without a scan", x.suspects(), -1, x, 5);
        due("suspect without a scan", x.suspect(-1), -1, x, 5);
        due("supposed without a scan", x.supposed(-1, 0), -1, x, 5);
        due("supposed of none", x.supposed(0, 3), -1, x, 1);
        x.lose(1);
        x.scan();
        due("suspects with one lost", x.suspects(), -1, x, 5);
        due("suspect with one lost", x.suspect(0), -1, x, 5);
        due("supposed with one lost", x.supposed(0, 0), -1, x, 5);
        due("supposed of none", x.supposed(0, -1), -1, x, 1);
    }

    private static void masks() {
        WeighingPlates x = of(MASKS);
        promise = 37;
        due("mask(0)", x.mask(0), 3, x, 0);
        due("mask(3)", x.mask(3), 7, x, 0);
        due("mask(4)", x.mask(4), -1, x, 1);
        due("mask(-1)", x.mask(-1), -1, x, 1);
        promise = 38;
        due("rank", x.rank(), 3, x, 0);
        WeighingPlates y = of("bench squares 7 dark 0 top 9;mask 0 1;mask 2 3;mask 0 2;mask 1 3;mask 6 5;mask 5 6");
        due("rank by fractions", y.rank(), 4, y, 0);
        promise = 39;
        due("told", x.told(), 7, x, 0);
        due("told", y.told(), 0, y, 0);
        WeighingPlates z = of("bench squares 7 dark 0 top 9;mask 0 1 2;mask 1 2;mask 3 4;mask 4");
        due("told", z.told(), 1 + 8 + 16, z, 0);
        promise = 44;
        due("agree", x.agree(), 1, x, 0);
        x.stick(0, 1);
        due("agree", x.agree(), 0, x, 0);
        x.stick(0, 2);
        due("agree", x.agree(), 1, x, 0);
        due("no beam", x.about(6), 0);
        promise = 43;
        due("fewer: not less", x.fewer(), 0, x, 0);
        WeighingPlates s = of(STAR);
        due("fewer", s.fewer(), 1, s, 0);
        WeighingPlates two = of("bench squares 7 dark 0 top 9;mask 0 3 5 6;mask 1 2 3 6;mask 2 4 5 6;mask 0 1 2 5"
                + ";mask 0 1 2 4 6;mask 0 2 3 4;mask 3 4 5");
        due("fewer", two.fewer(), 8 + 32, two, 0);
        due("shareBy(3)", two.shareBy(3, false), 27, two, 0);
        due("shareBy(3) lower", two.shareBy(3, true), 64, two, 0);
        due("shareBy(0)", two.shareBy(0, false), 35, two, 0);
    }

    private static void solved() {
        promise = 40;
        WeighingPlates x = of(MASKS);
        due("solved(0)", x.solved(0, false), 10, x, 0);
        due("solved(1)", x.solved(1, false), 20);
        x.stick(0, 1);
        due("solved(0)", x.solved(0, false), 5);
        due("solved(1)", x.solved(1, false), 25);
        due("solved(2)", x.solved(2, false), 9);
        x.shine(0, 9);
        due("solved(0) in halves", x.solved(0, false), 9);
        due("solved(0) in halves", x.solved(0, true), 2);
        due("solved(3)", x.solved(3, false), LOWEST, x, 1);
        due("solved(-1)", x.solved(-1, false), LOWEST, x, 1);
        WeighingPlates y = of(BARE + ";mask 0 1;mask 2;light 2 99;light 0 1;stuck 0 open");
        due("solved beyond top", y.solved(2, false), 100, y, 0);
        due("solved of one that isn't told", y.solved(0, false), LOWEST, y, 5);
        WeighingPlates z = of("bench squares 7 dark 2 top 9;mask 0 1 2;mask 1;mask 2;light 3 5;stuck 3 open");
        due("below nothing", z.solved(0, false), -5, z, 0);
        due("below nothing lower", z.solved(0, true), 1, z, 0);
    }

    private static void factors() {
        WeighingPlates x = of(MASKS);
        promise = 41;
        long[] up = {1, -1, 1, 0};
        long[] down = {2, 2, 2, 1};
        for (int i = 0; i < 4; i++) {
            due("factor(0, " + i + ")", x.factor(0, i, false), up[i], x, 0);
            due("factor(0, " + i + ") lower", x.factor(0, i, true), down[i], x, 0);
        }
        due("factor(0, 4)", x.factor(0, 4, false), LOWEST, x, 1);
        due("factor(3, 0)", x.factor(3, 0, false), LOWEST, x, 1);
        due("factor(0, -1)", x.factor(0, -1, false), LOWEST, x, 1);
        due("factor(-1, 0)", x.factor(-1, 0, false), LOWEST, x, 1);
        promise = 42;
        due("shareBy(0)", x.shareBy(0, false), 3, x, 0);
        due("shareBy(0) lower", x.shareBy(0, true), 4, x, 0);
        due("shareBy(3)", x.shareBy(3, true), -1, x, 1);
        WeighingPlates s = of(STAR);
        due("shareBy(0)", s.shareBy(0, false), 7);
        due("shareBy(0) lower", s.shareBy(0, true), 36);
        due("shareBy(1)", s.shareBy(1, false), 31);
        promise = 41;
        due("factor(0, 6)", s.factor(0, 6, false), -1);
        due("factor(0, 6) lower", s.factor(0, 6, true), 6);
        due("factor(1, 0)", s.factor(1, 0, false), 5);
        WeighingPlates y = of(BARE + ";mask 0 1;mask 0 1;mask 1;mask 2;mask 1 2");
        due("a mask again has no factor", y.factor(0, 1, false), 0, y, 0);
        due("nor has a sum", y.factor(2, 4, false), 0, y, 0);
        due("factor(0, 2)", y.factor(0, 2, false), -1, y, 0);
        WeighingPlates z = of(BARE + ";mask 0 1");
        due("factor of one that isn't told", z.factor(0, 0, false), LOWEST, z, 5);
        due("factor of no mask", z.factor(0, 1, false), LOWEST, z, 1);
        due("shareBy of one that isn't told", z.shareBy(0, false), -1, z, 5);
        due("shareBy of none", z.shareBy(3, false), -1, z, 1);
    }

    private static void tours() {
        promise = 45;
        WeighingPlates x = of(MASKS);
        due("tour", x.tour(), 6, x, 0);
        promise = 46;
        int[] order = {0, 1, 3, 2};
        for (int i = 0; i < 4; i++) {
            due("tourAt(" + i + ")", x.tourAt(i), order[i], x, 0);
        }
        due("tourAt(4)", x.tourAt(4), -1, x, 1);
        due("tourAt(-1)", x.tourAt(-1), -1, x, 1);
        WeighingPlates y = of("bench squares 7 dark 0 top 9;mask 0 1 2 3;mask 5;mask 0 1 2;mask 0;mask 0 1");
        due("tour", y.tour(), 6);
        int[] up = {1, 3, 4, 2, 0};
        for (int i = 0; i < 5; i++) {
            due("tourAt(" + i + ")", y.tourAt(i), up[i]);
        }
        StringBuilder text = new StringBuilder("bench squares 23 dark 0 top 9");
        for (int i = 11; i >= 0; i--) {
            text.append(";mask");
            for (int j = 0; j <= i; j++) {
                text.append(' ').append(j);
            }
        }
        WeighingPlates z = of(text.toString());
        due("tourAt(11) asked first", z.tourAt(11), 0);
        due("tourAt(0)", z.tourAt(0), 11);
        due("tour of twelve", z.tour(), 12);
        put(z, BARE + ";mask 2;mask 1 2");
        due("tour of the next bench", z.tour(), 2, z, 0);
        due("tourAt(0)", z.tourAt(0), 0);
        due("tourAt(2)", z.tourAt(2), -1, z, 1);
        put(z, BARE);
        due("tour without masks", z.tour(), 0, z, 0);
        due("tourAt(0)", z.tourAt(0), -1, z, 1);
    }

    private static void signs() {
        promise = 47;
        WeighingPlates x = new WeighingPlates();
        int[][] four = {{1, 1, 1, 1}, {1, -1, 1, -1}, {1, 1, -1, -1}, {1, -1, -1, 1}};
        for (int row = 0; row < 4; row++) {
            for (int column = 0; column < 4; column++) {
                due("sign(2, " + row + ", " + column + ")", x.sign(2, row, column), four[row][column], x, 0);
            }
        }
        due("sign(9, 511, 511)", x.sign(9, 511, 511), -1, x, 0);
        due("sign(9, 512, 0)", x.sign(9, 512, 0), 0, x, 2);
        due("sign(9, 0, 512)", x.sign(9, 0, 512), 0, x, 2);
        due("sign(10, 0, 0)", x.sign(10, 0, 0), 0, x, 2);
        due("sign(-1, 0, 0)", x.sign(-1, 0, 0), 0, x, 2);
        due("sign(0, 1, 0)", x.sign(0, 1, 0), 0, x, 2);
        due("sign(3, -1, 0)", x.sign(3, -1, 0), 0, x, 2);
        due("sign(3, 0, -1)", x.sign(3, 0, -1), 0, x, 2);
        due("sign(31, 0, 0)", x.sign(31, 0, 0), 0, x, 2);
        put(x, BARE);
        due("with a bench, too", x.sign(1, 1, 1), -1, x, 0);
        due("with a bench, too", x.sign(1, 2, 1), 0, x, 2);
    }

    private static void shine() {
        promise = 48;
        WeighingPlates x = of(SMALL);
        x.scan();
        x.look(0);
        due("shine(3, 0)", x.shine(3, 0), -1, x, 1);
        due("shine(-1, 10000)", x.shine(-1, 10000), -1, x, 1);
        due("shine(0, 10000)", x.shine(0, 10000), -1, x, 2);
        due("shine(0, -1)", x.shine(0, -1), -1, x, 2);
        due("a refused act ends nothing", x.size(3) + x.size(2), 2);
        due("and is none", x.size(4), 0);
        due("shine(0, 10)", x.shine(0, 10), 10, x, 0);
        due("an act ends the scan", x.size(3), 0);
        due("and the log", x.size(2), 0);
        due("and can be undone", x.size(4), 1);
        due("shine(0, 9999)", x.shine(0, 9999), 10, x, 0);
        due("shine(0, 0)", x.shine(0, 0), 9999, x, 0);
        due("light(0)", x.light(0), 0);
        due("monitor", x.about(4), 24);
    }

    private static void stick() {
        promise = 49;
        WeighingPlates x = of(BARE + ";light 0 1;light 1 2;light 2 4");
        x.scan();
        x.look(0);
        due("stick(3, 0)", x.stick(3, 0), -1, x, 1);
        due("stick(-1, 3)", x.stick(-1, 3), -1, x, 1);
        due("stick(0, 3)", x.stick(0, 3), -1, x, 2);
        due("stick(0, -1)", x.stick(0, -1), -1, x, 2);
        due("a refused act ends nothing", x.size(3) + x.size(2), 2);
        due("stick(0, 0)", x.stick(0, 0), 0, x, 0);
        due("an act ends the scan", x.size(3) + x.size(2), 0);
        due("stick(0, 1)", x.stick(0, 1), 0, x, 0);
        due("look(0)", x.look(0), 1);
        due("stick(0, 2)", x.stick(0, 2), 1, x, 0);
        due("look(7)", x.look(7), 6);
        due("stick(0, 2)", x.stick(0, 2), 2, x, 0);
        due("stick(0, 1)", x.stick(0, 1), 2, x, 0);
        due("shutter(0)", x.shutter(0), 1);
        x.stick(1, 1);
        x.stick(2, 1);
        due("look(0)", x.look(0), 7);
        due("monitor", x.about(4), 7);
        WeighingPlates y = of("bench squares 7 dark 0 top 9;stuck 0 open;stuck 1 shut;stuck 2 open");
        due("a fourth one", y.stick(3, 1), 0, y, 0);
        due("a fifth one", y.stick(4, 2), 0, y, 0);
    }

    private static void lose() {
        promise = 50;
        WeighingPlates x = of("bench squares 7 dark 0 top 9;lost 0;lost 1;lost 2");
        x.scan();
        x.look(0);
        due("lose(0)", x.lose(0), -1, x, 5);
        due("lose(7)", x.lose(7), -1, x, 1);
        due("lose(-1)", x.lose(-1), -1, x, 1);
        due("a refused act ends nothing", x.size(3) + x.size(2), 2);
        due("and is none", x.size(4), 0);
        for (int i = 3; i < 7; i++) {
            due("lose(" + i + ")", x.lose(i), i + 1, x, 0);
        }
        due("an act ends the scan", x.size(3) + x.size(2), 0);
        due("size(1)", x.size(1), 7);
        due("lost(6)", x.lost(6), 1);
        due("size(4)", x.size(4), 4);
    }

    private static void undo() {
        promise = 51;
        WeighingPlates x = of(SMALL);
        due("nothing to undo", x.undo() ? 1 : 0, 0, x, 1);
        x.shine(0, 99);
        x.stick(0, 2);
        x.stick(0, 1);
        x.lose(2);
        x.look(0);
        x.scan();
        due("undo", x.undo() ? 1 : 0, 1, x, 0);
        due("ends what was seen", x.size(2) + x.size(3), 0);
        due("beams stay", x.about(6), 3);
        due("lost(2)", x.lost(2), 0);
        due("undo", x.undo() ? 1 : 0, 1, x, 0);
        due("shutter(0)", x.shutter(0), 2);
        x.undo();
        due("shutter(0)", x.shutter(0), 0);
        due("light(0)", x.light(0), 99);
        x.undo();
        due("light(0)", x.light(0), 10);
        x.scan();
        x.look(0);
        due("nothing more", x.undo() ? 1 : 0, 0, x, 1);
        due("a refused one ends nothing", x.size(2) + x.size(3), 2);
        for (int i = 1; i <= 12; i++) {
            x.shine(1, i);
            due("size(4)", x.size(4), Math.min(i, 10));
        }
        for (int i = 0; i < 10; i++) {
            due("undo", x.undo() ? 1 : 0, 1, x, 0);
            due("light(1)", x.light(1), 11 - i);
        }
        due("ten are kept", x.undo() ? 1 : 0, 0, x, 1);
        due("light(1)", x.light(1), 2);
    }

    private static void stuck() {
        promise = 52;
        WeighingPlates x = new WeighingPlates();
        due("stuck(0) without a bench", isStuck(x, 0), THROWN);
        put(x, "bench squares 7 dark 0 top 9;stuck 5 shut;stuck 2 open");
        due("stuck(0)", isStuck(x, 0), 2);
        due("stuck(1)", isStuck(x, 1), 5);
        due("stuck(2)", isStuck(x, 2), THROWN);
        due("stuck(-1)", isStuck(x, -1), THROWN);
        x.stick(6, 1);
        x.stick(2, 0);
        due("stuck(0)", isStuck(x, 0), 5);
        due("stuck(1)", isStuck(x, 1), 6);
    }

    private static void sizes() {
        promise = 53;
        WeighingPlates x = of(MASKS + ";lost 2");
        give(x, "abc");
        x.shine(0, 1);
        x.shine(0, 2);
        x.look(1);
        x.look(1);
        x.look(1);
        x.scan();
        long[] want = {4, 1, 3, 1, 2, 20};
        for (int what = 0; what < 6; what++) {
            due("size(" + what + ")", x.size(what), want[what]);
        }
        due("size(6)", x.size(6), -1);
        due("size(-1)", x.size(-1), -1);
    }

    private static void trouble() {
        promise = 54;
        WeighingPlates x = of(SMALL);
        x.look(99);
        x.feed(0, 0, 0, 0, 0);
        x.fault();
        x.where();
        x.size(9);
        isStuck(x, 9);
        due("calls of which no number is told change nothing", x.trouble(), 2);
        due("trouble again", x.trouble(), 2);
        x.share(true);
        due("a call that isn't refused", x.trouble(), 0);
        x.scan();
        x.suspect(5);
        due("1 behind 5", x.trouble(), 1);
        x.odds();
        due("odds", x.trouble(), 0);
    }
}
