import java.util.ArrayList;
import java.util.List;

/** The boundary cases of what calls are given: without a bench, the first and the last number, the one ahead and behind, sets. */
public final class CallBoundsTest extends Checks {
    /** A call with a number of a colour or a plate, and what it answers when it is refused. */
    private record Numbered(int promise, String name, long refusal, ByNumber call) {
    }

    private interface ByNumber {
        long on(WeighingPlates x, int i);
    }

    private static final List<Numbered> NUMBERED = new ArrayList<>();

    public static void main(String[] args) {
        listCalls();
        newObject();
        withoutBench();
        withoutBenchAnyNumber();
        signWithoutBench();
        lastBenchesOwnNumbers();
        noSuchNumber();
        noSuchNumberEndsNothing();
        firstAndLastNumber();
        sets();
        setsThatAreNone();
        whats();
        whatsOfLog();
        sizes();
        signs();
        signsRefused();
        numbersOfSuspects();
        numbersOfMasks();
        numbersOfTours();
        orderOfRefusals();
        stuckOnes();
        troubleOfCallsWithoutNumber();
        troubleOfTheLatest();
        end("the bounds of the calls are kept");
    }

    private static void listCalls() {
        add(7, "plate(i)", -1, (x, i) -> x.plate(i));
        add(8, "common(i, 0)", -1, (x, i) -> x.common(i, 0));
        add(8, "common(0, i)", -1, (x, i) -> x.common(0, i));
        add(8, "common(i, i)", -1, (x, i) -> x.common(i, i));
        add(10, "apart(i)", -1, (x, i) -> x.apart(i));
        add(12, "light(i)", -1, (x, i) -> x.light(i));
        add(13, "shutter(i)", -1, (x, i) -> x.shutter(i));
        add(14, "noise(i)", LOW, (x, i) -> x.noise(i));
        add(15, "lost(i)", -1, (x, i) -> x.lost(i));
        add(20, "reading(i)", LOW, (x, i) -> x.reading(i));
        add(21, "net(i)", LOW, (x, i) -> x.net(i));
        add(22, "back(i, false)", LOWEST, (x, i) -> x.back(i, false));
        add(22, "back(i, true)", LOWEST, (x, i) -> x.back(i, true));
        add(25, "error(i, false)", LOWEST, (x, i) -> x.error(i, false));
        add(25, "error(i, true)", LOWEST, (x, i) -> x.error(i, true));
        add(31, "alone(i)", LOW, (x, i) -> x.alone(i));
        add(36, "supposed(0, i)", -1, (x, i) -> x.supposed(0, i));
        add(40, "solved(i, false)", LOWEST, (x, i) -> x.solved(i, false));
        add(40, "solved(i, true)", LOWEST, (x, i) -> x.solved(i, true));
        add(41, "factor(i, 0, false)", LOWEST, (x, i) -> x.factor(i, 0, false));
        add(41, "factor(i, 0, true)", LOWEST, (x, i) -> x.factor(i, 0, true));
        add(42, "shareBy(i, false)", -1, (x, i) -> x.shareBy(i, false));
        add(42, "shareBy(i, true)", -1, (x, i) -> x.shareBy(i, true));
        add(48, "shine(i, 5)", -1, (x, i) -> x.shine(i, 5));
        add(49, "stick(i, 1)", -1, (x, i) -> x.stick(i, 1));
        add(50, "lose(i)", -1, (x, i) -> x.lose(i));
    }

    private static void add(int promise, String name, long refusal, ByNumber call) {
        NUMBERED.add(new Numbered(promise, name, refusal, call));
    }

    // ---- without a bench

    private static void newObject() {
        promise = 1;
        WeighingPlates x = new WeighingPlates();
        due("trouble()", x.trouble(), 0);
        due("fault()", x.fault(), 0);
        due("where()", x.where(), -1);
        for (int what = 0; what < 6; what++) {
            due("size(" + what + ")", x.size(what), 0);
        }
        due("NONE", WeighingPlates.NONE, -1);
        refused(x, "undo()", y -> y.undo() ? 1 : 0, 0, 1);
        due("stuck(0)", isStuck(x, 0), THROWN);
    }

    /** "1 comes first without a BENCH", whatever is given. */
    private static void withoutBench() {
        promise = 1;
        WeighingPlates x = new WeighingPlates();
        refused(x, "scan()", y -> y.scan(), -1, 1);
        refused(x, "blinds()", y -> y.blinds(), -1, 1);
        refused(x, "odds()", y -> y.odds(), -1, 1);
        refused(x, "more(false)", y -> y.more(false), LOWEST, 1);
        refused(x, "more(true)", y -> y.more(true), LOWEST, 1);
        refused(x, "errors(false)", y -> y.errors(false), LOWEST, 1);
        refused(x, "errors(true)", y -> y.errors(true), LOWEST, 1);
        refused(x, "worst()", y -> y.worst(), -1, 1);
        refused(x, "share(false)", y -> y.share(false), -1, 1);
        refused(x, "share(true)", y -> y.share(true), -1, 1);
        refused(x, "grains(false)", y -> y.grains(false), LOWEST, 1);
        refused(x, "grains(true)", y -> y.grains(true), LOWEST, 1);
        refused(x, "better()", y -> y.better(), -1, 1);
        refused(x, "alones()", y -> y.alones(), -1, 1);
        refused(x, "closer()", y -> y.closer(), -1, 1);
        refused(x, "suspects()", y -> y.suspects(), -1, 1);
        refused(x, "rank()", y -> y.rank(), -1, 1);
        refused(x, "told()", y -> y.told(), -1, 1);
        refused(x, "fewer()", y -> y.fewer(), -1, 1);
        refused(x, "agree()", y -> y.agree(), -1, 1);
        refused(x, "tour()", y -> y.tour(), -1, 1);
        refused(x, "undo()", y -> y.undo() ? 1 : 0, 0, 1);
        due("a fault makes no bench", put(x, BARE + ";"), -1, x, 4);
        refused(x, "about(0)", y -> y.about(0), -1, 1);
        refused(x, "scan()", y -> y.scan(), -1, 1);
    }

    private static void withoutBenchAnyNumber() {
        promise = 1;
        for (int i : new int[] {0, 1, 2, 3, 31, 32, -1, LOW, HIGH}) {
            WeighingPlates x = new WeighingPlates();
            for (Numbered n : NUMBERED) {
                refused(x, n.name + " of " + i, y -> n.call.on(y, i), n.refusal, 1);
            }
            refused(x, "about", y -> y.about(i), -1, 1);
            refused(x, "which", y -> y.which(i), -1, 1);
            refused(x, "odd", y -> y.odd(i), -1, 1);
            refused(x, "look", y -> y.look(i), -1, 1);
            refused(x, "logged", y -> y.logged(i, 0), -1, 1);
            refused(x, "suspect", y -> y.suspect(i), -1, 1);
            refused(x, "supposed", y -> y.supposed(i, 0), -1, 1);
            refused(x, "mask", y -> y.mask(i), -1, 1);
            refused(x, "factor", y -> y.factor(0, i, false), LOWEST, 1);
            refused(x, "tourAt", y -> y.tourAt(i), -1, 1);
            refused(x, "shine, a number too", y -> y.shine(i, 10000), -1, 1);
            refused(x, "stick, a number too", y -> y.stick(i, 3), -1, 1);
            due("stuck", isStuck(x, i), THROWN);
        }
    }

    /** "0: 2 (with a BENCH or without)" */
    private static void signWithoutBench() {
        promise = 47;
        WeighingPlates x = new WeighingPlates();
        taken(x, "sign(0, 0, 0)", y -> y.sign(0, 0, 0), 1);
        refused(x, "sign(0, 1, 0)", y -> y.sign(0, 1, 0), 0, 2);
        put(x, BARE);
        taken(x, "sign(0, 0, 0)", y -> y.sign(0, 0, 0), 1);
        refused(x, "sign(0, 1, 0)", y -> y.sign(0, 1, 0), 0, 2);
    }

    // ---- numbers of colours and plates

    private static String full(int b) {
        return "bench " + BENCHES[b] + " dark 3 top 999999;light 0 7;light " + (COLOURS[b] - 1) + " 9;mask 0;mask " + (COLOURS[b] - 1);
    }

    private static void noSuchNumber() {
        for (int b = 0; b < BENCHES.length; b++) {
            int n = COLOURS[b];
            for (Numbered call : NUMBERED) {
                promise = call.promise;
                WeighingPlates x = of(full(b));
                x.scan();
                for (int i : new int[] {-1, n, n + 1, 32, 33, 64, -31, -32, LOW, HIGH}) {
                    refused(x, call.name + " of " + i + ", " + BENCHES[b], y -> call.call.on(y, i), call.refusal, 1);
                }
            }
        }
    }

    private static void noSuchNumberEndsNothing() {
        WeighingPlates x = of(SMALL + ";mask 0;mask 2");
        x.shine(0, 10);
        x.look(7);
        x.scan();
        for (Numbered call : NUMBERED) {
            promise = call.promise;
            call.call.on(x, 3);
            call.call.on(x, -1);
            due("the log", x.size(2), 1);
            due("the scan", x.size(3), 1);
            due("what can be undone", x.size(4), 1);
            due("the beams", x.about(6), 4);
            due("what is lost", x.size(1), 0);
            due("the monitor", x.about(4), 34);
        }
    }

    /** Numbers that only the bench ahead had are none of the bench behind it. */
    private static void lastBenchesOwnNumbers() {
        promise = 7;
        WeighingPlates x = of("bench doubled 3 dark 0 top 9;mask 6");
        taken(x, "plate(6)", y -> y.plate(6), 0b1001011);
        due("a lesser bench", put(x, BARE), 3);
        refused(x, "plate(6)", y -> y.plate(6), -1, 1);
        refused(x, "plate(3)", y -> y.plate(3), -1, 1);
        refused(x, "light(3)", y -> y.light(3), -1, 1);
        refused(x, "mask(0)", y -> y.mask(0), -1, 1);
        refused(x, "look(8)", y -> y.look(8), -1, 2);
        due("a greater bench", put(x, "bench squares 11 dark 0 top 9"), 11);
        taken(x, "light(10)", y -> y.light(10), 0);
        refused(x, "light(11)", y -> y.light(11), -1, 1);
        taken(x, "look(2047)", y -> y.look(2047), 0);
        refused(x, "look(2048)", y -> y.look(2048), -1, 2);
    }

    private static void firstAndLastNumber() {
        for (int b = 0; b < BENCHES.length; b++) {
            int n = COLOURS[b];
            for (Numbered call : NUMBERED) {
                promise = call.promise;
                for (int i : new int[] {0, n - 1}) {
                    WeighingPlates x = of(full(b));
                    x.scan();
                    x.sign(-1, 0, 0);
                    long got = call.call.on(x, i);
                    due("trouble after " + call.name + " of " + i + ", " + BENCHES[b], x.trouble(), 0);
                    due(call.name + " of " + i + " is refused", got == call.refusal ? 1 : 0, 0);
                }
            }
            WeighingPlates x = of(full(b));
            x.scan();
            long[] want = {(n + 1) / 2, (n + 1) / 4, (n + 1) / 2, 0, 9, 9, 1, 9, 1};
            long[] got = {x.common(n - 1, n - 1), x.common(0, n - 1), x.apart(n - 1), x.shutter(n - 1), x.light(n - 1),
                x.back(n - 1, false), x.back(n - 1, true), x.alone(n - 1), x.factor(n - 1, 1, false)};
            for (int k = 0; k < want.length; k++) {
                due("answer " + k + " of the last one, " + BENCHES[b], got[k], want[k]);
            }
        }
    }

    // ---- sets

    /** The empty set and the full one; each colour is let through by an even number of plates. */
    private static void sets() {
        for (int b = 0; b < BENCHES.length; b++) {
            int n = COLOURS[b];
            int all = n == 31 ? HIGH : (1 << n) - 1;
            WeighingPlates x = of(full(b));
            promise = 9;
            taken(x, "which(nothing)", y -> y.which(0), -2);
            taken(x, "which(all)", y -> y.which(all), -2);
            taken(x, "which(the first)", y -> y.which(y.plate(0)), 0);
            taken(x, "which(the last)", y -> y.which(y.plate(n - 1)), n - 1);
            promise = 11;
            taken(x, "odd(nothing)", y -> y.odd(0), 0);
            taken(x, "odd(all)", y -> y.odd(all), 0);
            taken(x, "odd(the last)", y -> y.odd(1 << n - 1), x.plate(n - 1));
            promise = 16;
            taken(x, "look(nothing)", y -> y.look(0), 3);
            taken(x, "look(all)", y -> y.look(all), 19);
            taken(x, "look(the last)", y -> y.look(1 << n - 1), 12);
        }
    }

    private static void setsThatAreNone() {
        for (int b = 0; b < BENCHES.length; b++) {
            int n = COLOURS[b];
            WeighingPlates x = of(full(b));
            x.look(0);
            for (int set : new int[] {-1, LOW, LOW + 1, -2, 1 << n, HIGH, 1 << n | 1}) {
                if (n == 31 && set >= 0) {
                    continue;
                }
                promise = 9;
                refused(x, "which(" + set + ")", y -> y.which(set), -1, 2);
                promise = 11;
                refused(x, "odd(" + set + ")", y -> y.odd(set), -1, 2);
                promise = 16;
                refused(x, "look(" + set + ")", y -> y.look(set), -1, 2);
            }
            due("no beam was opened", x.about(6), 1);
            due("nothing came into the log", x.size(2), 1);
        }
    }

    // ---- what is asked for

    /** "NONE: 1 (what, too)" */
    private static void whats() {
        promise = 6;
        WeighingPlates x = of("bench squares 19 dark 999 top 1");
        long[] want = {19, 1, 999, 1, 0, 10, 0, 0, 0};
        for (int what = 0; what < 9; what++) {
            int asked = what;
            taken(x, "about(" + what + ")", y -> y.about(asked), want[what]);
        }
        for (int what : new int[] {-1, 9, 10, LOW, HIGH}) {
            refused(x, "about(" + what + ")", y -> y.about(what), -1, 1);
        }
        for (int b = 0; b < BENCHES.length; b++) {
            WeighingPlates z = of("bench " + BENCHES[b] + " dark 0 top 9");
            due("colours", z.about(0), COLOURS[b]);
            due("kind", z.about(1), b < 4 ? 0 : 1);
            due("what a plate lets through", z.about(5), (COLOURS[b] + 1) / 2);
            for (int i = 0; i < COLOURS[b]; i++) {
                due("a plate lets through", Integer.bitCount(z.plate(i)), (COLOURS[b] + 1) / 2);
            }
        }
    }

    /** "NONE: 1 (i, what, too)" */
    private static void whatsOfLog() {
        promise = 17;
        WeighingPlates x = of(SMALL);
        refused(x, "logged(0, 0) of an empty log", y -> y.logged(0, 0), -1, 1);
        x.look(6);
        taken(x, "logged(0, 0)", y -> y.logged(0, 0), 6);
        taken(x, "logged(0, 1)", y -> y.logged(0, 1), 29);
        for (int wrongOne : new int[] {-1, 2, 3, LOW, HIGH}) {
            refused(x, "logged(0, " + wrongOne + ")", y -> y.logged(0, wrongOne), -1, 1);
            refused(x, "logged(" + wrongOne + ", 0)", y -> y.logged(wrongOne, 0), -1, 1);
        }
        refused(x, "logged(1, 0)", y -> y.logged(1, 0), -1, 1);
        refused(x, "logged(1, 1)", y -> y.logged(1, 1), -1, 1);
    }

    /** "NONE for others; 0 for what there isn't." */
    private static void sizes() {
        promise = 53;
        WeighingPlates x = new WeighingPlates();
        x.sign(-1, 0, 0);
        for (int what : new int[] {-1, 6, 7, LOW, HIGH}) {
            due("size(" + what + ")", x.size(what), -1);
        }
        due("size tells no number", x.trouble(), 2);
        put(x, "bench squares 3 dark 0 top 9" + ";mask 0".repeat(12));
        for (int i = 0; i < 3; i++) {
            x.lose(i);
        }
        for (int i = 0; i < 8; i++) {
            x.shine(0, i);
        }
        for (int i = 0; i < 21; i++) {
            x.look(0);
        }
        x.scan();
        give(x, blanks(801));
        long[] fullest = {12, 3, 20, 1, 10, 800};
        for (int what = 0; what < 6; what++) {
            due("size(" + what + ")", x.size(what), fullest[what]);
        }
        due("size(6)", x.size(6), -1);
        due("size(-1)", x.size(-1), -1);
    }

    // ---- sign squares

    /** "doubled k times (0 .. 9)", "both from 0" */
    private static void signs() {
        promise = 47;
        WeighingPlates x = new WeighingPlates();
        int[] corners = {1, -1, 1, -1, 1, -1, 1, -1, 1, -1};
        for (int k = 0; k <= 9; k++) {
            int doublings = k;
            int last = (1 << k) - 1;
            taken(x, "sign(" + k + ", 0, 0)", y -> y.sign(doublings, 0, 0), 1);
            taken(x, "sign(" + k + ", last, 0)", y -> y.sign(doublings, last, 0), 1);
            taken(x, "sign(" + k + ", 0, last)", y -> y.sign(doublings, 0, last), 1);
            taken(x, "sign(" + k + ", last, last)", y -> y.sign(doublings, last, last), corners[k]);
            refused(x, "sign(" + k + ", last + 1, 0)", y -> y.sign(doublings, last + 1, 0), 0, 2);
            refused(x, "sign(" + k + ", 0, last + 1)", y -> y.sign(doublings, 0, last + 1), 0, 2);
        }
        taken(x, "sign(9, 256, 256)", y -> y.sign(9, 256, 256), -1);
        taken(x, "sign(9, 256, 255)", y -> y.sign(9, 256, 255), 1);
    }

    private static void signsRefused() {
        promise = 47;
        WeighingPlates x = new WeighingPlates();
        for (int bad : new int[] {-1, -32, LOW, HIGH, 10, 31, 32, 33}) {
            refused(x, "sign(" + bad + ", 0, 0)", y -> y.sign(bad, 0, 0), 0, 2);
        }
        for (int bad : new int[] {-1, -512, LOW, HIGH, 512, 1024}) {
            refused(x, "sign(9, " + bad + ", 0)", y -> y.sign(9, bad, 0), 0, 2);
            refused(x, "sign(9, 0, " + bad + ")", y -> y.sign(9, 0, bad), 0, 2);
            refused(x, "sign(0, " + bad + ", 0)", y -> y.sign(0, bad, 0), 0, 2);
        }
    }

    // ---- numbers of suspects, masks, tours

    private static void numbersOfSuspects() {
        WeighingPlates x = of(SMALL + ";stuck 0 shut");
        x.scan();
        promise = 34;
        taken(x, "suspects()", y -> y.suspects(), 1);
        promise = 35;
        taken(x, "suspect(0)", y -> y.suspect(0), 2);
        promise = 36;
        taken(x, "supposed(0, 0)", y -> y.supposed(0, 0), 10);
        taken(x, "supposed(0, 2)", y -> y.supposed(0, 2), 4);
        for (int i : new int[] {-1, 1, 2, LOW, HIGH}) {
            promise = 35;
            refused(x, "suspect(" + i + ")", y -> y.suspect(i), -1, 1);
            promise = 36;
            refused(x, "supposed(" + i + ", 0)", y -> y.supposed(i, 0), -1, 1);
        }
        WeighingPlates all = of("bench doubled 5 dark 0 top 9");
        all.scan();
        promise = 34;
        taken(all, "suspects of a dark bench", y -> y.suspects(), 63);
        promise = 35;
        for (int i = 0; i < 63; i++) {
            due("suspect(" + i + ")", all.suspect(i), i);
        }
        refused(all, "suspect(63)", y -> y.suspect(63), -1, 1);
        promise = 36;
        taken(all, "supposed(62, 30)", y -> y.supposed(62, 30), 0);
        refused(all, "supposed(63, 30)", y -> y.supposed(63, 30), -1, 1);
    }

    private static void numbersOfMasks() {
        WeighingPlates x = of(BARE + ";mask 2;mask 0 1");
        promise = 37;
        taken(x, "mask(0)", y -> y.mask(0), 4);
        taken(x, "mask(1)", y -> y.mask(1), 3);
        promise = 41;
        taken(x, "factor(2, 0, false)", y -> y.factor(2, 0, false), 1);
        taken(x, "factor(2, 1, true)", y -> y.factor(2, 1, true), 1);
        for (int i : new int[] {-1, 2, 12, LOW, HIGH}) {
            promise = 37;
            refused(x, "mask(" + i + ")", y -> y.mask(i), -1, 1);
            promise = 41;
            refused(x, "factor(2, " + i + ", false)", y -> y.factor(2, i, false), LOWEST, 1);
        }
    }

    private static void numbersOfTours() {
        promise = 46;
        WeighingPlates x = of(BARE + ";mask 2;mask 0 1");
        taken(x, "tourAt(0)", y -> y.tourAt(0), 0);
        taken(x, "tourAt(1)", y -> y.tourAt(1), 1);
        for (int i : new int[] {-1, 2, 12, LOW, HIGH}) {
            refused(x, "tourAt(" + i + ")", y -> y.tourAt(i), -1, 1);
        }
    }

    // ---- which refusal comes first

    /** "Refusals are met in the order in which a call tells them" */
    private static void orderOfRefusals() {
        WeighingPlates x = of("bench doubled 2 dark 5 top 4;mask 0 1");
        promise = 16;
        refused(x, "look: 2 ahead of 5", y -> y.look(8), -1, 2);
        refused(x, "look: 5", y -> y.look(7), -1, 5);
        promise = 20;
        refused(x, "reading: 1 ahead of 5", y -> y.reading(3), LOW, 1);
        refused(x, "reading: 5", y -> y.reading(2), LOW, 5);
        promise = 21;
        refused(x, "net: 1 ahead of 5", y -> y.net(-1), LOW, 1);
        refused(x, "net: 5", y -> y.net(0), LOW, 5);
        promise = 22;
        refused(x, "back: 1 ahead of 5", y -> y.back(3, true), LOWEST, 1);
        refused(x, "back: 5", y -> y.back(2, true), LOWEST, 5);
        promise = 25;
        refused(x, "error: 1 ahead of 5", y -> y.error(3, true), LOWEST, 1);
        refused(x, "error: 5", y -> y.error(2, true), LOWEST, 5);
        promise = 35;
        refused(x, "suspect: 5 ahead of 1 (i)", y -> y.suspect(-1), -1, 5);
        promise = 36;
        refused(x, "supposed: 1 (j) ahead of 5", y -> y.supposed(0, 3), -1, 1);
        refused(x, "supposed: 5 ahead of 1 (i)", y -> y.supposed(-1, 2), -1, 5);
        promise = 40;
        refused(x, "solved: 1 ahead of 5", y -> y.solved(3, false), LOWEST, 1);
        refused(x, "solved: 5", y -> y.solved(2, false), LOWEST, 5);
        promise = 41;
        refused(x, "factor: 1 (j) ahead of 5", y -> y.factor(3, 0, false), LOWEST, 1);
        refused(x, "factor: 1 (a mask) ahead of 5", y -> y.factor(0, 1, false), LOWEST, 1);
        refused(x, "factor: 5", y -> y.factor(0, 0, false), LOWEST, 5);
        promise = 42;
        refused(x, "shareBy: 1 ahead of 5", y -> y.shareBy(-1, false), -1, 1);
        refused(x, "shareBy: 5", y -> y.shareBy(1, false), -1, 5);
        promise = 48;
        refused(x, "shine: 1 ahead of 2", y -> y.shine(3, 10000), -1, 1);
        refused(x, "shine: 2", y -> y.shine(2, 10000), -1, 2);
        promise = 49;
        refused(x, "stick: 1 ahead of 2", y -> y.stick(-1, 3), -1, 1);
        refused(x, "stick: 2", y -> y.stick(0, 3), -1, 2);
        promise = 3;
        refused(x, "bench: 2 ahead of 4", y -> y.bench(1), -1, 2);
    }

    /** "NoSuchElementException if there is none such." */
    private static void stuckOnes() {
        promise = 52;
        WeighingPlates x = of("bench doubled 5 dark 0 top 9");
        due("none is stuck", isStuck(x, 0), THROWN);
        x.stick(30, 2);
        due("stuck(0)", isStuck(x, 0), 30);
        for (int i : new int[] {-1, 1, 2, LOW, HIGH}) {
            due("stuck(" + i + ")", isStuck(x, i), THROWN);
        }
        for (int j = 0; j < 31; j++) {
            x.stick(j, 1 + j % 2);
        }
        for (int j = 0; j < 31; j++) {
            due("stuck(" + j + ")", isStuck(x, j), j);
        }
        due("stuck(31)", isStuck(x, 31), THROWN);
        due("stuck(32)", isStuck(x, 32), THROWN);
        x.stick(0, 0);
        due("stuck(0)", isStuck(x, 0), 1);
        due("stuck(29)", isStuck(x, 29), 30);
        due("stuck(30)", isStuck(x, 30), THROWN);
    }

    // ---- trouble

    /** "TROUBLE of the latest call that may be refused (those of which a number is told here)" */
    private static void troubleOfCallsWithoutNumber() {
        promise = 54;
        Call[] makers = {x -> x.sign(0, 0, 0), x -> x.plate(-1), x -> x.look(-1), x -> x.bench(0), x -> x.reading(0)};
        int[] troubles = {0, 1, 2, 4, 5};
        for (int i = 0; i < makers.length; i++) {
            WeighingPlates x = of(BARE);
            makers[i].on(x);
            due("trouble", x.trouble(), troubles[i]);
            x.feed(0, 0, 0, 0, 0);
            due("behind feed", x.trouble(), troubles[i]);
            x.fault();
            due("behind fault", x.trouble(), troubles[i]);
            x.where();
            due("behind where", x.trouble(), troubles[i]);
            isStuck(x, 0);
            due("behind stuck", x.trouble(), troubles[i]);
            x.size(0);
            x.size(-1);
            due("behind size", x.trouble(), troubles[i]);
            due("behind trouble", x.trouble(), troubles[i]);
            give(x, blanks(800));
            due("behind a feed that was too much", x.trouble(), troubles[i]);
        }
    }

    private static void troubleOfTheLatest() {
        promise = 54;
        WeighingPlates x = new WeighingPlates();
        due("at first", x.trouble(), 0);
        x.about(0);
        due("1", x.trouble(), 1);
        x.bench(1);
        due("2 behind 1", x.trouble(), 2);
        x.bench(0);
        due("4 behind 2", x.trouble(), 4);
        put(x, BARE);
        due("0 behind 4", x.trouble(), 0);
        x.odds();
        due("5 behind 0", x.trouble(), 5);
        x.look(-1);
        due("2 behind 5", x.trouble(), 2);
        x.light(0);
        due("0 behind 2", x.trouble(), 0);
    }
}
