/** The boundary cases of what is seen and worked out: looks, scans, what is had back, suspects, masks, acts. */
public final class SightBoundsTest extends Checks {
    /** Net readings 14, 24, 30; all three colours together are 34. */
    private static final String LIT = ";light 0 10;light 1 20;light 2 4";
    private static final String WIDE = "bench doubled 2 dark 0 top 99999";

    public static void main(String[] args) {
        lookAsMuchAsTop();
        lookAtNothing();
        lookByShutters();
        lookBlindedLeavesAll();
        lookAtAllThereIs();
        logGetsFull();
        logOfBlinded();
        scanBlindedAtEach();
        scanByNoise();
        scanOfLost();
        scanAgain();
        blindsAtEach();
        beams();
        readingsBelowNothing();
        netsOfLost();
        needsScan();
        needsPlates();
        wholesAndOdds();
        sumsOfAll();
        worstOfLike();
        shares();
        betterIsLess();
        closerIsLess();
        aloneAsksNoTop();
        fullest();
        largest();
        suspectsOfBounds();
        suspectsStuckOpenOfBounds();
        suspectsStuckShutOfBounds();
        suspectsBelowNothing();
        suspectsByLooks();
        suspectsShownByLooks();
        suspectsOfLog();
        suspectsNeedAllPlates();
        noMasks();
        twelveMasks();
        masksAlike();
        masksAlikeOfTheLargest();
        masksOfAll();
        lastColourTold();
        agreeing();
        fewerIsLess();
        shortTours();
        likeTours();
        shineBounds();
        stickBounds();
        loseBounds();
        asItIs();
        nothingToUndo();
        tenAreKept();
        tenOfAllSorts();
        undoneAndActedAgain();
        undoEndsWhatWasSeen();
        end("the bounds of what is seen are kept");
    }

    private static String withTop(int dark, int top) {
        return "bench doubled 2 dark " + dark + " top " + top;
    }

    // ---- looks

    /** "if that is more than TOP, it is BLINDED" */
    private static void lookAsMuchAsTop() {
        promise = 16;
        WeighingPlates x = of(withTop(5, 39) + LIT);
        taken(x, "as much as top", y -> y.look(7), 39);
        WeighingPlates z = of(withTop(5, 38) + LIT);
        refused(z, "one more than top", y -> y.look(7), -1, 5);
        taken(z, "less", y -> y.look(6), 29);
        WeighingPlates w = of(withTop(6, 39) + LIT);
        refused(w, "by dark", y -> y.look(7), -1, 5);
    }

    private static void lookAtNothing() {
        promise = 16;
        taken(of(withTop(0, 1)), "nothing", y -> y.look(0), 0);
        taken(of(withTop(5, 5)), "dark as top", y -> y.look(0), 5);
        refused(of(withTop(6, 5)), "dark above top", y -> y.look(0), -1, 5);
    }

    /** "that are in the set and not stuck shut, or are stuck open" */
    private static void lookByShutters() {
        promise = 16;
        WeighingPlates x = of(withTop(0, 20) + LIT + ";stuck 1 open;stuck 0 shut");
        taken(x, "one that isn't in the set", y -> y.look(0), 20);
        taken(x, "one that is", y -> y.look(2), 20);
        taken(x, "one that is shut", y -> y.look(1), 20);
        refused(x, "both", y -> y.look(4), -1, 5);
        x.shine(1, 21);
        refused(x, "nothing, but it is open", y -> y.look(0), -1, 5);
        x.stick(1, 2);
        taken(x, "all, but they are shut", y -> y.look(7), 4);
    }

    private static void lookBlindedLeavesAll() {
        promise = 16;
        WeighingPlates x = of(withTop(0, 30) + LIT);
        x.shine(0, 10);
        x.scan();
        x.look(3);
        refused(x, "blinded", y -> y.look(7), -1, 5);
        due("the log", x.size(2), 1);
        due("its latest", x.logged(0, 0), 3);
        due("the scan", x.size(3), 1);
        due("what can be undone", x.size(4), 1);
        due("beams", x.about(6), 5);
        due("beams that are open", x.about(7), 0);
        due("blinded ones", x.about(8), 1);
        due("reading", x.reading(2), 30);
    }

    private static void lookAtAllThereIs() {
        promise = 16;
        String lights = lines(31, "light ", " 9999");
        taken(of("bench doubled 5 dark 999 top 310968" + lights), "all", y -> y.look(HIGH), 310968);
        refused(of("bench doubled 5 dark 999 top 310967" + lights), "all", y -> y.look(HIGH), -1, 5);
        taken(of("bench squares 31 dark 999 top 999999" + lights), "all", y -> y.look(HIGH), 310968);
    }

    // ---- the log

    /** "the latest 20 LOOKS by hand" */
    private static void logGetsFull() {
        promise = 17;
        WeighingPlates x = of("bench doubled 4 dark 0 top 9;light 0 1");
        for (int i = 1; i <= 45; i++) {
            int set = i;
            taken(x, "look(" + i + ")", y -> y.look(set), i % 2);
            due("size", x.size(2), Math.min(i, 20));
        }
        for (int i = 0; i < 20; i++) {
            due("logged(" + i + ", 0)", x.logged(i, 0), 45 - i);
            due("logged(" + i + ", 1)", x.logged(i, 1), (45 - i) % 2);
        }
        refused(x, "logged(20, 0)", y -> y.logged(20, 0), -1, 1);
        WeighingPlates z = of(BARE);
        for (int i = 0; i < 19; i++) {
            z.look(i % 8);
        }
        refused(z, "logged(19, 0) of nineteen", y -> y.logged(19, 0), -1, 1);
        z.look(7);
        taken(z, "logged(19, 0) of twenty", y -> y.logged(19, 0), 0);
        taken(z, "logged(0, 0)", y -> y.logged(0, 0), 7);
        z.look(6);
        taken(z, "logged(19, 0) of twenty-one", y -> y.logged(19, 0), 1);
    }

    /** "that weren't BLINDED": of a full log none goes for a look that is. */
    private static void logOfBlinded() {
        promise = 17;
        WeighingPlates x = of(withTop(0, 30) + LIT);
        refused(x, "blinded", y -> y.look(7), -1, 5);
        due("empty", x.size(2), 0);
        x.look(1);
        for (int i = 0; i < 19; i++) {
            x.look(2);
        }
        refused(x, "blinded", y -> y.look(7), -1, 5);
        refused(x, "no set", y -> y.look(8), -1, 2);
        x.scan();
        due("the oldest", x.logged(19, 0), 1);
        due("the latest", x.logged(0, 0), 2);
    }

    // ---- scans

    /** "a LOOK at each PLATE that isn't LOST, by numbers, till one is BLINDED: then there is no SCAN" */
    private static void scanBlindedAtEach() {
        promise = 18;
        int[] tops = {13, 14, 23, 24, 29};
        int[] beams = {1, 2, 2, 3, 3};
        for (int i = 0; i < tops.length; i++) {
            WeighingPlates x = of(withTop(0, tops[i]) + LIT);
            x.look(0);
            refused(x, "scan, top " + tops[i], y -> y.scan(), -1, 5);
            due("beams", x.about(6), beams[i] + 1);
            due("beams that are open", x.about(7), 0);
            due("blinded", x.about(8), 1);
            due("no scan", x.size(3), 0);
            due("the log", x.size(2), 1);
            refused(x, "reading", y -> y.reading(0), LOW, 5);
        }
        WeighingPlates x = of(withTop(0, 30) + LIT);
        taken(x, "scan, top 30", y -> y.scan(), 3);
        due("a scan", x.size(3), 1);
    }

    /** What is READ is asked for TOP, not the READING. */
    private static void scanByNoise() {
        promise = 18;
        WeighingPlates x = of(withTop(0, 30) + LIT + ";noise 2 plus 99");
        taken(x, "noise lifts it above top", y -> y.scan(), 3);
        due("reading", x.reading(2), 129);
        refused(of(withTop(0, 29) + LIT + ";noise 2 less 99"), "noise doesn't lower it below top", y -> y.scan(), -1, 5);
    }

    private static void scanOfLost() {
        promise = 18;
        WeighingPlates x = of(withTop(0, 29) + LIT + ";lost 2");
        taken(x, "the one that would be blinded is lost", y -> y.scan(), 2);
        x.lose(0);
        taken(x, "one plate", y -> y.scan(), 1);
        x.lose(1);
        taken(x, "no plate", y -> y.scan(), 0);
        due("a scan of nothing is one", x.size(3), 1);
        due("beams", x.about(6), 3);
        refused(x, "reading", y -> y.reading(0), LOW, 5);
        refused(x, "net", y -> y.net(0), LOW, 5);
        refused(x, "back", y -> y.back(0, false), LOWEST, 5);
        taken(of("bench doubled 5 dark 999 top 999"), "all plates of the largest bench", y -> y.scan(), 31);
    }

    private static void scanAgain() {
        promise = 18;
        WeighingPlates x = of(withTop(0, 30) + LIT + ";noise 0 plus 5");
        taken(x, "scan", y -> y.scan(), 3);
        taken(x, "scan again", y -> y.scan(), 3);
        due("beams", x.about(6), 6);
        due("errors aren't heaped up", x.reading(0), 19);
        x.shine(0, 11);
        due("an act ends it", x.size(3), 0);
        refused(x, "blinded now", y -> y.scan(), -1, 5);
        due("none", x.size(3), 0);
    }

    /** "How many PLATES would be looked at ahead of the first one that is BLINDED; -2 if none would be." */
    private static void blindsAtEach() {
        promise = 19;
        int[] tops = {1, 13, 14, 23, 24, 29, 30};
        int[] want = {0, 0, 1, 1, 2, 2, -2};
        for (int i = 0; i < tops.length; i++) {
            taken(of(withTop(0, tops[i]) + LIT), "blinds, top " + tops[i], y -> y.blinds(), want[i]);
        }
        WeighingPlates x = of(withTop(0, 24) + LIT + ";lost 0;noise 1 plus 99");
        taken(x, "of two", y -> y.blinds(), 1);
        x.lose(1);
        taken(x, "of one", y -> y.blinds(), 0);
        x.lose(2);
        taken(x, "of none", y -> y.blinds(), -2);
        taken(of(withTop(2, 1)), "by dark", y -> y.blinds(), 0);
    }

    /** Only looks and scans open a beam. */
    private static void beams() {
        promise = 6;
        WeighingPlates x = of(withTop(0, 30) + LIT + ";mask 0 1;mask 1");
        x.scan();
        x.look(0);
        x.blinds();
        x.alone(0);
        x.alones();
        x.closer();
        x.agree();
        x.solved(0, false);
        x.tour();
        x.suspects();
        x.look(8);
        x.look(-1);
        due("beams", x.about(6), 4);
        due("blinded", x.about(8), 0);
        x.shine(0, 9);
        x.undo();
        due("acts leave them", x.about(6), 4);
        x.look(7);
        x.look(7);
        due("beams", x.about(6), 6);
        due("blinded", x.about(8), 2);
        due("open", x.about(7), 0);
    }

    private static void readingsBelowNothing() {
        WeighingPlates x = of(withTop(0, 30) + ";noise 0 less 99;noise 2 less 1");
        x.scan();
        promise = 20;
        taken(x, "reading(0)", y -> y.reading(0), -99);
        taken(x, "reading(1)", y -> y.reading(1), 0);
        taken(x, "reading(2), not refused", y -> y.reading(2), -1);
        promise = 21;
        taken(x, "net(2), not refused", y -> y.net(2), -1);
        promise = 14;
        taken(x, "noise(2), not refused", y -> y.noise(2), -1);
        promise = 31;
        taken(x, "alone(2), not refused", y -> y.alone(2), -1);
    }

    /** "(of the one that is LOST, too)", "of a LOST one, if more are" */
    private static void netsOfLost() {
        promise = 21;
        int[] nets = {14, 24, 30};
        for (int gone = 0; gone < 3; gone++) {
            int lostOne = gone;
            WeighingPlates x = of(SMALL + ";lost " + gone + ";noise " + gone + " plus 50");
            refused(x, "net without a scan", y -> y.net(lostOne), LOW, 5);
            x.scan();
            for (int i = 0; i < 3; i++) {
                int plate = i;
                taken(x, "net(" + i + ")", y -> y.net(plate), nets[i]);
            }
            promise = 20;
            refused(x, "reading of the lost one", y -> y.reading(lostOne), LOW, 5);
            promise = 21;
            x.lose((gone + 1) % 3);
            x.scan();
            refused(x, "net of one of two", y -> y.net(lostOne), LOW, 5);
            refused(x, "net of the other", y -> y.net((lostOne + 1) % 3), LOW, 5);
            taken(x, "net of one that isn't lost", y -> y.net((lostOne + 2) % 3), nets[(gone + 2) % 3]);
            taken(x, "its reading", y -> y.reading((lostOne + 2) % 3), nets[(gone + 2) % 3] + 5);
            x.undo();
            refused(x, "undo ends the scan", y -> y.net(lostOne), LOW, 5);
            x.scan();
            taken(x, "net of the one again", y -> y.net(lostOne), nets[gone]);
        }
    }

    // ---- had back

    private static final Call[] HAD_BACK = {x -> x.back(0, false), x -> x.back(2, true), x -> x.odds(), x -> x.more(false),
        x -> x.more(true), x -> x.error(0, false), x -> x.error(2, true), x -> x.errors(false), x -> x.errors(true),
        x -> x.worst(), x -> x.grains(false), x -> x.grains(true), x -> x.better(), x -> x.closer()};
    private static final int[] PROMISES = {22, 22, 23, 24, 24, 25, 25, 26, 26, 27, 29, 29, 30, 33};
    private static final long[] REFUSALS = {LOWEST, LOWEST, -1, LOWEST, LOWEST, LOWEST, LOWEST, LOWEST, LOWEST,
        -1, LOWEST, LOWEST, -1, -1};
    /** Of SMALL, with no noise: grains are 17. */
    private static final long[] ANSWERS = {10, 1, 0, 0, 1, 0, 1, 0, 1, 0, 17, 1, 2, 0};

    private static void needAnswers(WeighingPlates x, boolean there) {
        for (int i = 0; i < HAD_BACK.length; i++) {
            promise = PROMISES[i];
            if (there) {
                taken(x, "call " + i, HAD_BACK[i], ANSWERS[i]);
            } else {
                refused(x, "call " + i, HAD_BACK[i], REFUSALS[i], 5);
            }
        }
    }

    /** "then 5 (no SCAN ..)": none at first, none behind an act, a refused scan, an undo, a bench. */
    private static void needsScan() {
        WeighingPlates x = of(SMALL);
        needAnswers(x, false);
        x.scan();
        needAnswers(x, true);
        x.shine(2, 4);
        needAnswers(x, false);
        WeighingPlates z = of(SMALL);
        z.shine(0, 9999);
        z.scan();
        needAnswers(z, false);
        z.undo();
        z.scan();
        needAnswers(z, true);
        put(z, SMALL);
        needAnswers(z, false);
    }

    /** "(.. 2 LOST or more)" */
    private static void needsPlates() {
        for (int first = 0; first < 3; first++) {
            WeighingPlates x = of(SMALL + ";lost " + first);
            x.scan();
            needAnswers(x, true);
            x.lose((first + 1) % 3);
            x.scan();
            needAnswers(x, false);
            x.lose((first + 2) % 3);
            x.scan();
            needAnswers(x, false);
        }
        promise = 28;
        WeighingPlates x = of(SMALL + ";lost 0;lost 1");
        taken(x, "share asks for none", y -> y.share(false), 3);
        promise = 31;
        taken(x, "nor does alone", y -> y.alone(0), 10);
        promise = 32;
        taken(x, "nor do alones", y -> y.alones(), 0);
    }

    private static WeighingPlates scanned(String text) {
        WeighingPlates x = of(text);
        x.scan();
        return x;
    }

    private static void dueParts(WeighingPlates x, String what, Call up, Call down, long upper, long lower) {
        taken(x, what, up, upper);
        taken(x, what + " lower", down, lower);
    }

    /** "ODD: it is no WHOLE, or below 0." Half of noise 0 is in colours 0 and 2, and lacks in 1. */
    private static void wholesAndOdds() {
        String[] noises = {"", ";noise 0 plus 1", ";noise 0 plus 2", ";noise 0 less 1", ";noise 0 less 2", ";noise 0 plus 4"};
        long[] upper = {0, 1, 1, -1, -1, 2};
        long[] lower = {1, 2, 1, 2, 1, 1};
        int[] odds = {0, 7, 2, 7, 5, 2};
        for (int i = 0; i < noises.length; i++) {
            WeighingPlates x = scanned(BARE + noises[i]);
            promise = 22;
            dueParts(x, "back(0)" + noises[i], y -> y.back(0, false), y -> y.back(0, true), upper[i], lower[i]);
            dueParts(x, "back(1)" + noises[i], y -> y.back(1, false), y -> y.back(1, true), -upper[i], lower[i]);
            promise = 25;
            dueParts(x, "error(2)" + noises[i], y -> y.error(2, false), y -> y.error(2, true), upper[i], lower[i]);
            promise = 23;
            taken(x, "odds" + noises[i], y -> y.odds(), odds[i]);
            promise = 24;
            dueParts(x, "more" + noises[i], y -> y.more(false), y -> y.more(true), upper[i], lower[i]);
        }
    }

    private static void sumsOfAll() {
        promise = 26;
        WeighingPlates x = scanned(SMALL);
        dueParts(x, "no errors", y -> y.errors(false), y -> y.errors(true), 0, 1);
        promise = 24;
        dueParts(x, "no more", y -> y.more(false), y -> y.more(true), 0, 1);
        promise = 29;
        dueParts(x, "grains", y -> y.grains(false), y -> y.grains(true), 17, 1);
        dueParts(scanned(BARE), "no grains", y -> y.grains(false), y -> y.grains(true), 0, 1);
        dueParts(scanned(BARE + ";noise 1 less 6"), "grains below 0", y -> y.grains(false), y -> y.grains(true), -3, 2);
        dueParts(scanned(BARE + ";noise 1 less 4"), "grains of -1", y -> y.grains(false), y -> y.grains(true), -1, 1);
        promise = 26;
        WeighingPlates z = scanned(BARE + ";noise 0 plus 1");
        dueParts(z, "errors", y -> y.errors(false), y -> y.errors(true), 3, 4);
        promise = 23;
        WeighingPlates last = scanned("bench doubled 5 dark 0 top 9;noise 0 plus 16");
        taken(last, "the last colour is a bit, too", y -> y.odds(), 0x2aaaaaaa);
        promise = 22;
        taken(last, "back(30)", y -> y.back(30, false), 1);
        taken(last, "back(29)", y -> y.back(29, false), -1);
    }

    /** "of several the first" */
    private static void worstOfLike() {
        promise = 27;
        taken(scanned(SMALL), "none", y -> y.worst(), 0);
        taken(scanned(BARE + ";noise 0 plus 2"), "1, -1, 1", y -> y.worst(), 0);
        taken(scanned(BARE + ";noise 1 plus 2"), "-1, 1, 1", y -> y.worst(), 0);
        taken(scanned(BARE + ";noise 0 less 4;noise 2 plus 4"), "0, 4, -4", y -> y.worst(), 1);
        taken(scanned(BARE + ";noise 0 plus 4;noise 2 less 4"), "0, -4, 4", y -> y.worst(), 1);
        taken(scanned(BARE + ";noise 0 plus 4;noise 1 plus 4"), "0, 0, 4", y -> y.worst(), 2);
        taken(scanned(BARE + ";noise 0 less 4;noise 1 less 4"), "0, 0, -4", y -> y.worst(), 2);
        taken(scanned(BARE + ";noise 0 plus 1;noise 1 less 1;noise 2 less 1"), "1/2, -3/2, 1/2", y -> y.worst(), 1);
    }

    private static void shares() {
        promise = 28;
        int[] lower = {4, 16, 64, 256, 4, 16, 36, 100, 144, 256};
        for (int b = 0; b < BENCHES.length; b++) {
            WeighingPlates x = of("bench " + BENCHES[b] + " dark 0 top 9");
            dueParts(x, "share, " + BENCHES[b], y -> y.share(false), y -> y.share(true), COLOURS[b], lower[b]);
        }
    }

    /** "if GRAINS are less than HAD BACK": of three colours one that is more than half of all. */
    private static void betterIsLess() {
        promise = 30;
        taken(scanned(WIDE + ";light 0 17;light 1 10;light 2 7"), "just half", y -> y.better(), 0);
        taken(scanned(WIDE + ";light 0 18;light 1 10;light 2 7"), "half a light more", y -> y.better(), 1);
        taken(scanned(WIDE + ";light 2 1"), "all of it", y -> y.better(), 4);
        taken(scanned(WIDE), "nothing", y -> y.better(), 0);
        taken(scanned(BARE + ";noise 0 less 2"), "grains of -1/2 and -1, 1, -1", y -> y.better(), 2);
        taken(scanned(BARE + ";noise 0 less 1;noise 1 less 1"), "0, 0, -1 and -1/2", y -> y.better(), 3);
        String seven = "bench squares 7 dark 0 top 99";
        taken(scanned(seven + ";light 0 8;light 5 8;light 6 8"), "three that are more than a quarter", y -> y.better(), 97);
        taken(scanned(seven + ";light 0 8;light 2 8;light 5 8;light 6 8"), "four quarters", y -> y.better(), 0);
    }

    /** "of which ERROR is less than how far ALONE is off its LIGHT (both without signs)" */
    private static void closerIsLess() {
        promise = 33;
        taken(scanned(SMALL), "no errors", y -> y.closer(), 0);
        taken(scanned(SMALL + ";noise 0 plus 1;noise 1 plus 2;noise 2 plus 3"), "1, 2, 0 by 1, 2, 3", y -> y.closer(), 4);
        taken(scanned(SMALL + ";noise 0 less 1;noise 1 less 2;noise 2 less 3"), "-1, -2, 0 by -1, -2, -3", y -> y.closer(), 4);
        taken(scanned(SMALL + ";noise 0 plus 1;noise 1 plus 4;noise 2 plus 1"), "-1, 2, 2 by 1, 4, 1", y -> y.closer(), 2);
        taken(scanned(SMALL + ";noise 0 plus 1"), "1/2, -1/2, 1/2 by 1, 0, 0", y -> y.closer(), 1);
        taken(scanned(SMALL + ";noise 0 plus 2;noise 1 plus 2"), "0, 0, 2 by 2, 2, 0", y -> y.closer(), 3);
        taken(scanned("bench doubled 5 dark 0 top 9;noise 30 plus 1"), "the last colour", y -> y.closer(), 1 << 30);
    }

    /** "(no BEAM is opened, TOP isn't asked)" */
    private static void aloneAsksNoTop() {
        promise = 31;
        WeighingPlates x = of("bench doubled 2 dark 999 top 1;light 0 9999;light 1 1;stuck 1 open;noise 0 plus 99;lost 0");
        taken(x, "alone(0)", y -> y.alone(0), 10099);
        taken(x, "alone(1)", y -> y.alone(1), 1);
        taken(x, "alone(2)", y -> y.alone(2), 1);
        promise = 32;
        taken(x, "alones", y -> y.alones(), 100 * 100 + 1);
        due("no beam", x.about(6), 0);
        x.stick(0, 2);
        taken(x, "alones", y -> y.alones(), 9899L * 9899 + 1);
        taken(of(SMALL), "none is off", y -> y.alones(), 0);
        promise = 31;
        WeighingPlates z = of("bench squares 31 dark 0 top 9;light 30 9999;stuck 30 shut;noise 30 less 99");
        taken(z, "alone(30)", y -> y.alone(30), -99);
    }

    private static void fullest() {
        promise = 22;
        WeighingPlates x = of("bench squares 31 dark 999 top 999999" + lines(31, "light ", " 9999"));
        due("monitor", x.about(4), 309969);
        x.scan();
        for (int i = 0; i < 31; i++) {
            due("reading", x.reading(i), 16 * 9999 + 999);
            due("net", x.net(i), 16 * 9999);
            due("back", x.back(i, false), 9999);
        }
        due("grains", x.grains(false), 4L * 31 * 16 * 9999 / 64);
        due("grains lower", x.grains(true), 1024 / 64);
        due("better", x.better(), 0);
        due("odds", x.odds(), 0);
        taken(of("bench squares 31 dark 999 top 160983" + lines(31, "light ", " 9999")), "scan", y -> y.scan(), 31);
        refused(of("bench squares 31 dark 999 top 160982" + lines(31, "light ", " 9999")), "scan", y -> y.scan(), -1, 5);
    }

    /** All that goes over the colours or the plates, where there are as many as there can be. */
    private static void largest() {
        for (String kind : new String[] {"doubled 5", "squares 31"}) {
            WeighingPlates x = scanned("bench " + kind + " dark 999 top 999999" + lines(31, "light ", " 9999"));
            promise = 19;
            taken(x, "blinds", y -> y.blinds(), -2);
            promise = 23;
            taken(x, "odds", y -> y.odds(), 0);
            promise = 24;
            dueParts(x, "more", y -> y.more(false), y -> y.more(true), 0, 1);
            promise = 26;
            dueParts(x, "errors", y -> y.errors(false), y -> y.errors(true), 0, 1);
            promise = 27;
            taken(x, "worst", y -> y.worst(), 0);
            promise = 32;
            taken(x, "alones", y -> y.alones(), 0);
            promise = 33;
            taken(x, "closer", y -> y.closer(), 0);
            dueSuspects(x, "none is stuck", 0);
            taken(x, "supposed(0, 30)", y -> y.supposed(0, 30), 9999);
            x.look(HIGH);
            dueSuspects(x, "a look at all", 0);
            promise = 43;
            taken(x, "fewer", y -> y.fewer(), 0);
            promise = 52;
            due("stuck(0)", isStuck(x, 0), THROWN);
            promise = 50;
            taken(x, "lose(30)", y -> y.lose(30), 1);
            x.scan();
            promise = 21;
            taken(x, "net(30)", y -> y.net(30), 16 * 9999);
            promise = 22;
            taken(x, "back(30)", y -> y.back(30, false), 9999);
            promise = 49;
            taken(x, "stick(30, 2)", y -> y.stick(30, 2), 0);
            x.undo();
            x.undo();
            x.stick(30, 2);
            x.scan();
            promise = 27;
            taken(x, "worst", y -> y.worst(), 30);
            promise = 26;
            dueParts(x, "errors", y -> y.errors(false), y -> y.errors(true), 9999L * 9999, 1);
            dueSuspects(x, "the last one is shut", 62);
            taken(x, "supposed(0, 30)", y -> y.supposed(0, 30), 9999);
        }
    }

    // ---- suspects

    private static void dueSuspects(WeighingPlates x, String what, int... numbers) {
        promise = 34;
        taken(x, what, y -> y.suspects(), numbers.length);
        promise = 35;
        for (int i = 0; i < numbers.length; i++) {
            int number = i;
            taken(x, what + ", suspect(" + i + ")", y -> y.suspect(number), numbers[i]);
        }
        refused(x, what + ", one more", y -> y.suspect(numbers.length), -1, 1);
        promise = 36;
        refused(x, what + ", supposed by one more", y -> y.supposed(numbers.length, 0), -1, 1);
    }

    /** The noise adds 1 to colour 0 and takes 1 from colour 1. */
    private static WeighingPlates shifted(int first, int second) {
        return scanned(WIDE + ";light 0 " + first + ";light 1 " + second + ";light 2 100;noise 0 plus 1;noise 1 less 1");
    }

    /** "LIGHTS (0 .. 9,999)" */
    private static void suspectsOfBounds() {
        WeighingPlates x = shifted(9998, 5);
        dueSuspects(x, "9,999", 0);
        taken(x, "supposed(0, 0)", y -> y.supposed(0, 0), 9999);
        taken(x, "supposed(0, 1)", y -> y.supposed(0, 1), 4);
        taken(x, "supposed(0, 2)", y -> y.supposed(0, 2), 100);
        dueSuspects(shifted(9999, 5), "10,000");
        WeighingPlates z = shifted(10, 1);
        dueSuspects(z, "0", 0, 3, 4);
        taken(z, "supposed(0, 1)", y -> y.supposed(0, 1), 0);
        dueSuspects(shifted(10, 0), "below 0");
        dueSuspects(scanned(WIDE + ";light 0 10;light 2 4;noise 0 plus 1"), "no wholes, 10 1/2, -1/2, 4 1/2");
    }

    /** Two that are open look like one with the light of both. */
    private static void suspectsStuckOpenOfBounds() {
        String open = ";light 2 5;stuck 0 open;stuck 1 open";
        WeighingPlates x = scanned(WIDE + ";light 0 9998;light 1 1" + open);
        dueSuspects(x, "9,999", 1, 3);
        taken(x, "supposed(0, 0)", y -> y.supposed(0, 0), 9999);
        taken(x, "supposed(1, 1)", y -> y.supposed(1, 1), 9999);
        taken(x, "supposed(1, 0)", y -> y.supposed(1, 0), 0);
        dueSuspects(scanned(WIDE + ";light 0 9998;light 1 2" + open), "10,000");
    }

    private static void suspectsStuckShutOfBounds() {
        String shut = ";light 2 5;stuck 0 shut;stuck 1 shut";
        WeighingPlates x = scanned(WIDE + ";light 0 9998;light 1 1" + shut);
        dueSuspects(x, "9,999", 2, 4);
        taken(x, "supposed(0, 0)", y -> y.supposed(0, 0), 9999);
        taken(x, "supposed(0, 1)", y -> y.supposed(0, 1), 0);
        dueSuspects(scanned(WIDE + ";light 0 9998;light 1 2" + shut), "10,000");
    }

    /** Net readings 0, 1, 1: a light of 1 in colour 1, which is more than the monitor tells, or as much. */
    private static void suspectsBelowNothing() {
        String noise = ";noise 1 plus 1;noise 2 plus 1";
        dueSuspects(scanned(BARE + noise), "more than the monitor");
        WeighingPlates x = scanned(BARE + ";light 0 1;stuck 0 shut" + noise);
        dueSuspects(x, "as much", 0, 1, 2, 5, 6);
        for (int i = 0; i < 5; i++) {
            int number = i;
            taken(x, "supposed(i, 0)", y -> y.supposed(number, 0), 0);
            taken(x, "supposed(i, 1)", y -> y.supposed(number, 1), 1);
        }
        dueSuspects(scanned(BARE + ";light 0 2;stuck 0 shut" + noise), "less than the monitor", 2, 6);
        dueSuspects(scanned(BARE + ";noise 0 less 1;noise 1 less 1"), "a light of -1 in colour 2");
        dueSuspects(scanned(BARE + ";noise 0 plus 1;noise 1 plus 1"), "a light of 1 that the monitor doesn't tell");
    }

    /** A look can tell apart who is stuck, and what it can't tell apart stays. */
    private static void suspectsByLooks() {
        String open = ";light 0 6;light 2 5;stuck 0 open";
        WeighingPlates x = scanned(WIDE + open);
        dueSuspects(x, "0 or 1 is open", 1, 3);
        x.look(0);
        x.look(4);
        x.look(3);
        dueSuspects(x, "still", 1, 3);
        WeighingPlates z = scanned(WIDE + ";light 0 6;light 2 5;stuck 0 shut");
        dueSuspects(z, "0 or 1 is shut", 2, 4);
        z.look(7);
        z.look(1);
        z.look(2);
        dueSuspects(z, "still", 2, 4);
        WeighingPlates fine = shifted(10, 1);
        fine.look(4);
        dueSuspects(fine, "a look at what isn't shifted", 0, 3, 4);
        fine.look(7);
        dueSuspects(fine, "a look at all of it", 0, 3, 4);
        fine.look(2);
        dueSuspects(fine, "a light of 1 was seen that should be 0");
    }

    /** The noise makes just as if colour 0 were stuck, and a look shows that it isn't. */
    private static void suspectsShownByLooks() {
        WeighingPlates open = scanned(WIDE + ";light 0 4;light 1 3;light 2 2;noise 1 plus 4");
        dueSuspects(open, "as if 0 were open", 1);
        open.look(3);
        dueSuspects(open, "a look at 0 and 1", 1);
        open.look(6);
        dueSuspects(open, "a look without 0");
        WeighingPlates shut = scanned(WIDE + ";light 0 4;light 1 3;light 2 2;noise 0 less 4;noise 2 less 4");
        dueSuspects(shut, "as if 0 were shut", 2);
        shut.look(6);
        dueSuspects(shut, "a look without 0", 2);
        shut.look(5);
        dueSuspects(shut, "a look with 0");
        WeighingPlates none = scanned(WIDE + ";light 0 4;light 1 3;light 2 2;noise 1 less 4;stuck 0 open");
        dueSuspects(none, "as if none were stuck", 0);
        none.look(1);
        dueSuspects(none, "a look at 0", 0);
        none.look(2);
        dueSuspects(none, "a look at 1");
    }

    /** "all LOOKS of THE LOG": what has gone out of it, or was BLINDED, says nothing. */
    private static void suspectsOfLog() {
        WeighingPlates x = shifted(10, 20);
        x.look(4);
        dueSuspects(x, "a look that fits", 0);
        x.look(1);
        dueSuspects(x, "a look that doesn't");
        for (int i = 0; i < 19; i++) {
            x.look(4);
        }
        dueSuspects(x, "the twentieth of the log still");
        x.look(4);
        dueSuspects(x, "gone", 0);
        WeighingPlates z = scanned(withTop(0, 30) + LIT);
        z.look(7);
        dueSuspects(z, "a blinded look", 0);
        WeighingPlates w = scanned(withTop(0, 30) + LIT);
        w.look(0);
        dueSuspects(w, "a look at nothing", 0);
    }

    /** "1; then 5 (no SCAN; any PLATE is LOST)" */
    private static void suspectsNeedAllPlates() {
        WeighingPlates x = of(SMALL);
        for (int gone = 0; gone <= 3; gone++) {
            for (int seen = 0; seen < 2; seen++) {
                if (seen == 1) {
                    x.scan();
                }
                if (seen == 1 && gone == 0) {
                    dueSuspects(x, "all there", 0);
                    continue;
                }
                promise = 34;
                refused(x, "suspects", y -> y.suspects(), -1, 5);
                promise = 35;
                refused(x, "suspect(0)", y -> y.suspect(0), -1, 5);
                promise = 36;
                refused(x, "supposed(0, 0)", y -> y.supposed(0, 0), -1, 5);
                refused(x, "supposed(0, 3)", y -> y.supposed(0, 3), -1, 1);
            }
            x.lose(gone);
        }
    }

    // ---- masks

    private static void noMasks() {
        WeighingPlates x = of(SMALL);
        promise = 37;
        refused(x, "mask(0)", y -> y.mask(0), -1, 1);
        promise = 38;
        taken(x, "rank", y -> y.rank(), 0);
        promise = 39;
        taken(x, "told", y -> y.told(), 0);
        promise = 40;
        refused(x, "solved(0)", y -> y.solved(0, false), LOWEST, 5);
        promise = 41;
        refused(x, "factor(0, 0)", y -> y.factor(0, 0, false), LOWEST, 1);
        promise = 42;
        refused(x, "shareBy(0)", y -> y.shareBy(0, false), -1, 5);
        promise = 43;
        taken(x, "fewer", y -> y.fewer(), 0);
        promise = 44;
        taken(x, "agree", y -> y.agree(), 1);
        promise = 45;
        taken(x, "tour", y -> y.tour(), 0);
        promise = 46;
        refused(x, "tourAt(0)", y -> y.tourAt(0), -1, 1);
        promise = 53;
        due("size(0)", x.size(0), 0);
    }

    private static void twelveMasks() {
        WeighingPlates x = of("bench doubled 5 dark 7 top 7;light 11 50" + lines(12, "mask ", ""));
        promise = 37;
        taken(x, "mask(11)", y -> y.mask(11), 1 << 11);
        refused(x, "mask(12)", y -> y.mask(12), -1, 1);
        promise = 38;
        taken(x, "rank", y -> y.rank(), 12);
        promise = 39;
        taken(x, "told", y -> y.told(), 0xfff);
        promise = 40;
        taken(x, "solved(11)", y -> y.solved(11, false), 50);
        taken(x, "solved(0) lower", y -> y.solved(0, true), 1);
        refused(x, "solved(12)", y -> y.solved(12, false), LOWEST, 5);
        promise = 41;
        taken(x, "factor(11, 11)", y -> y.factor(11, 11, false), 1);
        taken(x, "factor(11, 10)", y -> y.factor(11, 10, false), 0);
        refused(x, "factor(11, 12)", y -> y.factor(11, 12, false), LOWEST, 1);
        promise = 42;
        dueParts(x, "shareBy(11)", y -> y.shareBy(11, false), y -> y.shareBy(11, true), 1, 1);
        promise = 45;
        taken(x, "tour", y -> y.tour(), 23);
        promise = 46;
        for (int i = 0; i < 12; i++) {
            due("tourAt(" + i + ")", x.tourAt(i), i);
        }
        refused(x, "tourAt(12)", y -> y.tourAt(12), -1, 1);
    }

    private static void masksAlike() {
        WeighingPlates x = of(SMALL + ";mask 1".repeat(12) + ";stuck 0 open");
        promise = 38;
        taken(x, "rank", y -> y.rank(), 1);
        promise = 39;
        taken(x, "told", y -> y.told(), 2);
        promise = 40;
        taken(x, "solved(1)", y -> y.solved(1, false), 30);
        promise = 41;
        taken(x, "the first has the factor", y -> y.factor(1, 0, false), 1);
        for (int i = 1; i < 12; i++) {
            int number = i;
            dueParts(x, "the others none", y -> y.factor(1, number, false), y -> y.factor(1, number, true), 0, 1);
        }
        promise = 44;
        taken(x, "agree", y -> y.agree(), 1);
        promise = 45;
        taken(x, "tour", y -> y.tour(), 1);
        promise = 46;
        for (int i = 0; i < 12; i++) {
            due("tourAt(" + i + ")", x.tourAt(i), i);
        }
    }

    private static void masksAlikeOfTheLargest() {
        WeighingPlates x = of("bench squares 31 dark 0 top 9;light 30 5" + ";mask 0 30;mask 30".repeat(6));
        promise = 38;
        taken(x, "rank", y -> y.rank(), 2);
        promise = 39;
        taken(x, "told", y -> y.told(), 0x40000001);
        promise = 40;
        taken(x, "solved(30)", y -> y.solved(30, false), 5);
        taken(x, "solved(0)", y -> y.solved(0, false), 0);
        promise = 44;
        taken(x, "agree", y -> y.agree(), 1);
        promise = 45;
        taken(x, "tour", y -> y.tour(), 2);
    }

    /** More masks than colours: the rank is no more than they are. */
    private static void masksOfAll() {
        WeighingPlates x = of(SMALL + ";mask 0;mask 1;mask 2;mask 0 1;mask 0 2;mask 1 2;mask 0 1 2"
                + ";mask 2;mask 1;mask 0;mask 2 1 0;mask 1 0");
        promise = 38;
        taken(x, "rank", y -> y.rank(), 3);
        promise = 39;
        taken(x, "told", y -> y.told(), 7);
        promise = 44;
        taken(x, "agree", y -> y.agree(), 1);
        promise = 42;
        dueParts(x, "shareBy(2)", y -> y.shareBy(2, false), y -> y.shareBy(2, true), 1, 1);
        promise = 45;
        taken(x, "tour", y -> y.tour(), 7);
    }

    private static void lastColourTold() {
        WeighingPlates x = of("bench squares 31 dark 3 top 4;light 30 9999;light 29 1;mask 29 30;mask 29");
        promise = 37;
        taken(x, "mask(0)", y -> y.mask(0), 0x60000000);
        promise = 39;
        taken(x, "told", y -> y.told(), 0x60000000);
        promise = 40;
        taken(x, "solved(30), top isn't asked", y -> y.solved(30, false), 9999);
        promise = 41;
        taken(x, "factor(30, 1), -1 is no refusal", y -> y.factor(30, 1, false), -1);
        promise = 42;
        taken(x, "shareBy(30)", y -> y.shareBy(30, false), 2);
        promise = 45;
        taken(x, "tour", y -> y.tour(), 2);
        promise = 46;
        taken(x, "tourAt(0)", y -> y.tourAt(0), 1);
        promise = 6;
        due("no beam", x.about(6), 0);
    }

    /** "if each MASK that is a sum of MASKS ahead so has the LOOK that is that sum of theirs" */
    private static void agreeing() {
        promise = 44;
        WeighingPlates x = of(SMALL + ";mask 0;mask 1;mask 0 1;mask 0 1 2");
        taken(x, "fine", y -> y.agree(), 1);
        x.stick(2, 1);
        taken(x, "open", y -> y.agree(), 0);
        x.shine(2, 0);
        taken(x, "open, without light", y -> y.agree(), 1);
        x.shine(2, 1);
        taken(x, "off by one", y -> y.agree(), 0);
        x.stick(2, 2);
        taken(x, "shut", y -> y.agree(), 1);
        WeighingPlates z = of(SMALL + ";mask 0;mask 1;mask 2;stuck 0 open");
        taken(z, "none is a sum", y -> y.agree(), 1);
        WeighingPlates last = of(SMALL + lines(3, "mask ", "") + ";mask 0".repeat(8) + ";mask 0 1;stuck 0 open");
        taken(last, "the twelfth doesn't", y -> y.agree(), 0);
    }

    /** "of which that is less than SHARE" */
    private static void fewerIsLess() {
        promise = 43;
        WeighingPlates x = of(BARE + ";mask 0 2;mask 1 2;mask 0 1");
        dueParts(x, "shareBy", y -> y.shareBy(0, false), y -> y.shareBy(0, true), 3, 4);
        dueParts(x, "share", y -> y.share(false), y -> y.share(true), 3, 4);
        taken(x, "as much isn't less", y -> y.fewer(), 0);
        // Seven masks that are the plates tell each colour with just the share.
        StringBuilder text = new StringBuilder("bench squares 7 dark 0 top 9");
        for (int i = 0; i < 7; i++) {
            text.append(";mask");
            for (int j = 0; j < 7; j++) {
                if (isCell(i, j)) {
                    text.append(' ').append(j);
                }
            }
        }
        WeighingPlates z = of(text.toString());
        dueParts(z, "shareBy", y -> y.shareBy(6, false), y -> y.shareBy(6, true), 7, 16);
        taken(z, "told", y -> y.told(), 127);
        taken(z, "as much isn't less", y -> y.fewer(), 0);
        WeighingPlates s = of("bench doubled 3 dark 0 top 9;mask 0 1;mask 0 2;mask 0 3;mask 0 4;mask 0 5;mask 0 6;mask 1 2 3 4 5 6");
        taken(s, "less", y -> y.fewer(), 1);
        WeighingPlates two = of("bench squares 7 dark 0 top 9;mask 0 3 5 6;mask 1 2 3 6;mask 2 4 5 6;mask 0 1 2 5"
                + ";mask 0 1 2 4 6;mask 0 2 3 4;mask 3 4 5");
        dueParts(two, "one by 64 less", y -> y.shareBy(3, false), y -> y.shareBy(3, true), 27, 64);
        taken(two, "both that are less", y -> y.fewer(), 8 + 32);
    }

    private static boolean isCell(int i, int j) {
        int rest = (i + j) % 7;
        return rest == 0 || rest == 1 || rest == 2 || rest == 4;
    }

    private static void shortTours() {
        promise = 45;
        taken(of(BARE + ";mask 1"), "one mask", y -> y.tour(), 1);
        taken(of(BARE + ";mask 1 2 0"), "one mask of all", y -> y.tour(), 3);
        StringBuilder all = new StringBuilder("bench doubled 5 dark 0 top 9;mask");
        for (int j = 0; j < 31; j++) {
            all.append(' ').append(j);
        }
        WeighingPlates x = of(all + ";mask 30");
        taken(x, "all of the largest", y -> y.tour(), 31);
        promise = 46;
        taken(x, "tourAt(0)", y -> y.tourAt(0), 1);
        taken(x, "tourAt(1)", y -> y.tourAt(1), 0);
    }

    /** "of like ones the first row by numbers" */
    private static void likeTours() {
        String[] masks = {";mask 0;mask 1", ";mask 0 1;mask 0;mask 1", ";mask 1;mask 0 1;mask 0", ";mask 0;mask 0;mask 1",
            ";mask 0;mask 1;mask 0", ";mask 0;mask 1;mask 2"};
        int[] moves = {3, 3, 3, 3, 3, 5};
        int[][] rows = {{0, 1}, {1, 0, 2}, {0, 1, 2}, {0, 1, 2}, {0, 2, 1}, {0, 1, 2}};
        WeighingPlates used = new WeighingPlates();
        for (int i = 0; i < 2 * masks.length; i++) {
            dueTour(new WeighingPlates(), masks[i % masks.length], moves[i % masks.length], rows[i % masks.length]);
            put(used, BARE + ";mask 0 1 2;mask 1 2;mask 0 2;mask 0 1;mask 2" + ";mask 0 1".repeat(i % 8));
            used.tour();
            dueTour(used, masks[i % masks.length], moves[i % masks.length], rows[i % masks.length]);
        }
    }

    private static void dueTour(WeighingPlates x, String masks, int moves, int[] row) {
        put(x, BARE + masks);
        promise = 46;
        for (int at = 0; at < row.length; at++) {
            due("tourAt(" + at + ") of " + masks, x.tourAt(at), row[at]);
        }
        promise = 45;
        due("tour of " + masks, x.tour(), moves);
    }

    // ---- acts

    private static WeighingPlates seen() {
        WeighingPlates x = of(SMALL);
        x.scan();
        x.look(0);
        return x;
    }

    private static void dueSeen(WeighingPlates x, int there, int acts) {
        due("the log", x.size(2), there);
        due("the scan", x.size(3), there);
        due("what can be undone", x.size(4), acts);
    }

    /** "A LIGHT (0 .. 9,999; as it is, too)" */
    private static void shineBounds() {
        promise = 48;
        WeighingPlates x = seen();
        for (int light : new int[] {-1, 10000, LOW, HIGH}) {
            refused(x, "shine(0, " + light + ")", y -> y.shine(0, light), -1, 2);
        }
        refused(x, "shine(3, 0)", y -> y.shine(3, 0), -1, 1);
        dueSeen(x, 1, 0);
        due("light", x.light(0), 10);
        taken(x, "shine(0, 0)", y -> y.shine(0, 0), 10);
        dueSeen(x, 0, 1);
        taken(x, "shine(0, 9999)", y -> y.shine(0, 9999), 0);
        due("light", x.light(0), 9999);
        taken(x, "shine(0, 9999), as it is", y -> y.shine(0, 9999), 9999);
        due("monitor", x.about(4), 9999 + 24);
        dueSeen(x, 0, 3);
    }

    /** "A SHUTTER (0 .. 2; as it is, too; however many are stuck)" */
    private static void stickBounds() {
        promise = 49;
        WeighingPlates x = seen();
        for (int how : new int[] {-1, 3, LOW, HIGH}) {
            refused(x, "stick(0, " + how + ")", y -> y.stick(0, how), -1, 2);
        }
        refused(x, "stick(3, 0)", y -> y.stick(3, 0), -1, 1);
        dueSeen(x, 1, 0);
        due("shutter", x.shutter(0), 0);
        int[] ways = {0, 1, 1, 2, 2, 1, 0, 2, 0};
        int before = 0;
        for (int how : ways) {
            taken(x, "stick(0, " + how + ")", y -> y.stick(0, how), before);
            due("shutter", x.shutter(0), how);
            before = how;
        }
        dueSeen(x, 0, 9);
        WeighingPlates z = of("bench squares 31 dark 0 top 9" + lines(3, "stuck ", " open"));
        for (int j = 3; j < 31; j++) {
            int colour = j;
            taken(z, "one more that is stuck", y -> y.stick(colour, 2), 0);
        }
        due("all are", isStuck(z, 30), 30);
    }

    /** "A PLATE is LOST (however many are): how many are. NONE: 1; 5 (it is)." */
    private static void loseBounds() {
        promise = 50;
        WeighingPlates x = seen();
        refused(x, "lose(3)", y -> y.lose(3), -1, 1);
        dueSeen(x, 1, 0);
        taken(x, "lose(2)", y -> y.lose(2), 1);
        dueSeen(x, 0, 1);
        x.scan();
        x.look(0);
        refused(x, "lose(2) again", y -> y.lose(2), -1, 5);
        dueSeen(x, 1, 1);
        due("still one", x.size(1), 1);
        WeighingPlates z = of("bench squares 31 dark 0 top 9" + lines(3, "lost ", ""));
        refused(z, "one that the text lost", y -> y.lose(0), -1, 5);
        for (int i = 3; i < 31; i++) {
            int plate = i;
            taken(z, "one more", y -> y.lose(plate), i + 1);
        }
        refused(z, "none is left", y -> y.lose(30), -1, 5);
        due("all are", z.size(1), 31);
        taken(z, "a scan of nothing", y -> y.scan(), 0);
        refused(z, "net", y -> y.net(30), LOW, 5);
    }

    /** What is set as it is, is an act all the same. */
    private static void asItIs() {
        promise = 48;
        WeighingPlates x = seen();
        taken(x, "shine(0, 10)", y -> y.shine(0, 10), 10);
        dueSeen(x, 0, 1);
        x.scan();
        x.look(0);
        promise = 49;
        taken(x, "stick(1, 0)", y -> y.stick(1, 0), 0);
        dueSeen(x, 0, 2);
        promise = 51;
        taken(x, "undo", y -> y.undo() ? 1 : 0, 1);
        taken(x, "undo", y -> y.undo() ? 1 : 0, 1);
        due("light", x.light(0), 10);
        due("shutter", x.shutter(1), 0);
        refused(x, "undo", y -> y.undo() ? 1 : 0, 0, 1);
    }

    /** "false: 1 (there is nothing)"; what the text told can't be undone. */
    private static void nothingToUndo() {
        promise = 51;
        WeighingPlates x = of(SMALL + ";lost 0;stuck 1 open");
        x.scan();
        x.look(0);
        refused(x, "undo", y -> y.undo() ? 1 : 0, 0, 1);
        dueSeen(x, 1, 0);
        due("lost", x.lost(0), 1);
        due("stuck", x.shutter(1), 1);
        x.shine(3, 1);
        x.shine(0, -1);
        x.lose(0);
        refused(x, "refused acts are none", y -> y.undo() ? 1 : 0, 0, 1);
    }

    /** "(10 are kept)" */
    private static void tenAreKept() {
        promise = 51;
        for (int acts = 9; acts <= 12; acts++) {
            WeighingPlates x = of("bench squares 31 dark 0 top 9");
            for (int i = 1; i <= acts; i++) {
                x.lose(i);
                due("size(4)", x.size(4), Math.min(i, 10));
            }
            int kept = Math.min(acts, 10);
            for (int i = 0; i < kept; i++) {
                taken(x, "undo", y -> y.undo() ? 1 : 0, 1);
                due("the latest is had back", x.lost(acts - i), 0);
                due("size(1)", x.size(1), acts - i - 1);
                due("size(4)", x.size(4), kept - i - 1);
            }
            refused(x, "one more", y -> y.undo() ? 1 : 0, 0, 1);
            due("what is lost for good", x.size(1), acts - kept);
        }
    }

    /** Of acts of all sorts the oldest goes, too, and the others stay what they were. */
    private static void tenOfAllSorts() {
        promise = 51;
        WeighingPlates x = of(SMALL);
        x.lose(0);
        x.shine(0, 1);
        x.stick(0, 1);
        x.lose(1);
        x.stick(1, 2);
        x.shine(1, 2);
        x.shine(1, 3);
        x.stick(2, 1);
        x.stick(2, 2);
        x.lose(2);
        x.shine(2, 9);
        due("size(4)", x.size(4), 10);
        x.undo();
        due("light(2)", x.light(2), 4);
        x.undo();
        due("lost(2)", x.lost(2), 0);
        x.undo();
        due("shutter(2)", x.shutter(2), 1);
        x.undo();
        due("shutter(2)", x.shutter(2), 0);
        x.undo();
        due("light(1)", x.light(1), 2);
        x.undo();
        due("light(1)", x.light(1), 20);
        x.undo();
        due("shutter(1)", x.shutter(1), 0);
        x.undo();
        due("lost(1)", x.lost(1), 0);
        x.undo();
        due("shutter(0)", x.shutter(0), 0);
        taken(x, "the tenth", y -> y.undo() ? 1 : 0, 1);
        due("light(0)", x.light(0), 10);
        refused(x, "the eleventh", y -> y.undo() ? 1 : 0, 0, 1);
        due("lost(0)", x.lost(0), 1);
    }

    /** "the latest ACT not undone yet" */
    private static void undoneAndActedAgain() {
        promise = 51;
        WeighingPlates x = of("bench squares 31 dark 0 top 9");
        for (int i = 1; i <= 10; i++) {
            x.shine(0, i);
        }
        for (int i = 0; i < 3; i++) {
            x.undo();
        }
        due("light", x.light(0), 7);
        for (int i = 1; i <= 4; i++) {
            due("shine", x.shine(0, 100 * i), i == 1 ? 7 : 100 * i - 100);
        }
        due("size(4)", x.size(4), 10);
        int[] lights = {300, 200, 100, 7, 6, 5, 4, 3, 2, 1};
        for (int light : lights) {
            taken(x, "undo", y -> y.undo() ? 1 : 0, 1);
            due("light", x.light(0), light);
        }
        refused(x, "one more", y -> y.undo() ? 1 : 0, 0, 1);
        due("the first act isn't undone", x.light(0), 1);
    }

    private static void undoEndsWhatWasSeen() {
        promise = 51;
        Call[] acts = {x -> x.shine(0, 1), x -> x.stick(0, 1), x -> x.lose(0)};
        for (Call act : acts) {
            WeighingPlates x = seen();
            act.on(x);
            dueSeen(x, 0, 1);
            x.scan();
            x.look(0);
            dueSeen(x, 1, 1);
            int beams = x.about(6);
            taken(x, "undo", y -> y.undo() ? 1 : 0, 1);
            dueSeen(x, 0, 0);
            due("beams are kept", x.about(6), beams);
            due("light", x.light(0), 10);
            due("shutter", x.shutter(0), 0);
            due("lost", x.lost(0), 0);
        }
    }
}
