/** The boundary cases of THE TAPE and of THE TEXT: what just goes, what just doesn't, and where the fault is. */
public final class TextBoundsTest extends Checks {
    private static final String ELEVEN = "bench squares 11 dark 0 top 9";
    private static final int[] NO_SIGNS = {0, 9, 10, 13, 31, 33, 47, 58, 60, 64, 65, 90, 91, 96, 123, 127, 128, 160, 255};

    public static void main(String[] args) {
        tapeGetsFull();
        fullTapeIsRead();
        highestByteFirst();
        tapeIsEmptied();
        tapeStays();
        numbersOfBench();
        nothingToRead();
        onlyFirstBytesCount();
        benchStaysAfterFault();
        benchStartsAnew();
        bytesThatBeginNoToken();
        everyByteBehindWhole();
        everyByteAsTop();
        lengthsOfWords();
        everyLetterOfWords();
        lengthsOfWholes();
        everyEnd();
        breaks();
        tokensThatDontGoOn();
        doublings();
        primes();
        darkAndTop();
        lights();
        noises();
        numbersOfEachBench();
        secondBench();
        linesAgain();
        coloursOfMaskAgain();
        notAgain();
        manyStuck();
        manyNoises();
        manyLost();
        manyMasks();
        noRoomForLightsIsNeeded();
        aheadOfBench();
        firstFromTheLeft();
        leastOfOnePlace();
        atFirst();
        faultIsKept();
        whereIsGone();
        end("the bounds of the text are kept");
    }

    // ---- the tape

    /** "NONE, and none comes, if there would be more than 800." */
    private static void tapeGetsFull() {
        promise = 2;
        WeighingPlates x = new WeighingPlates();
        x.sign(-1, 0, 0);
        due("empty", x.size(5), 0);
        for (int i = 1; i <= 40; i++) {
            due("feed", x.feed(i, -i, LOW, HIGH, 0), 20 * i);
        }
        due("full", x.size(5), 800);
        due("a feed more", x.feed(0, 0, 0, 0, 0), -1);
        due("and another", x.feed(-1, -1, -1, -1, -1), -1);
        due("none came", x.size(5), 800);
        due("feed tells no number", x.trouble(), 2);
    }

    private static void fullTapeIsRead() {
        promise = 2;
        WeighingPlates x = new WeighingPlates();
        give(x, "bench doubled 2 dark 0 top" + blanks(773) + "7");
        x.feed(0x3f3f3f3f, 0, 0, 0, 0);
        due("800 bytes", x.bench(800), 3, x, 0);
        due("the byte at 799 counts", x.about(3), 7);
        bad(BARE + blanks(771) + "?", 1, 799);
        bad(BARE + blanks(771) + ";", 1, 800);
        bad(blanks(800), 1, 800);
    }

    private static void highestByteFirst() {
        promise = 2;
        WeighingPlates x = new WeighingPlates();
        int[] marks = {0xffffffff, 0x20ffffff, 0x2020ffff, 0x202020ff, 0x20202020};
        for (int at = 0; at < 5; at++) {
            for (int number = 0; number < 5; number++) {
                int[] five = {0x20202020, 0x20202020, 0x20202020, 0x20202020, 0x20202020};
                five[number] = marks[at];
                x.feed(five[0], five[1], five[2], five[3], five[4]);
                x.bench(20);
                due("the first byte that is no blank", x.where(), at < 4 ? 4 * number + at : 20);
            }
        }
    }

    /** "The first n bytes of THE TAPE (it is empty then)": the others are gone, too. */
    private static void tapeIsEmptied() {
        promise = 3;
        WeighingPlates x = new WeighingPlates();
        give(x, BARE + ";light 0 1");
        due("bench(28)", x.bench(28), 3, x, 0);
        due("empty", x.size(5), 0);
        due("bench(1)", x.bench(1), -1, x, 2);
        due("feed", x.feed(0, 0, 0, 0, 0), 20);
        due("a fault", x.bench(1), -1, x, 4);
        due("empty behind a fault, too", x.size(5), 0);
        for (int i = 1; i <= 40; i++) {
            due("feed", x.feed(0, 0, 0, 0, 0), 20 * i);
        }
        due("a feed more", x.feed(0, 0, 0, 0, 0), -1);
    }

    /** "2 (THE TAPE stays)": what comes next comes behind it. */
    private static void tapeStays() {
        promise = 3;
        WeighingPlates x = new WeighingPlates();
        give(x, "bench doubled 2 dark");
        refused(x, "bench(21)", y -> y.bench(21), -1, 2);
        due("twenty bytes", x.size(5), 20);
        give(x, " 8 top 9");
        due("both", x.size(5), 40);
        taken(x, "bench(40)", y -> y.bench(40), 3);
        due("dark", x.about(2), 8);
    }

    private static void numbersOfBench() {
        promise = 3;
        WeighingPlates x = of(SMALL);
        refused(x, "bench(1) of an empty tape", y -> y.bench(1), -1, 2);
        give(x, BARE);
        for (int n : new int[] {-1, 41, 800, 801, LOW, HIGH}) {
            refused(x, "bench(" + n + ")", y -> y.bench(n), -1, 2);
            due("no fault", x.fault(), 0);
        }
        due("the tape stays", x.size(5), 40);
        due("the bench stays", x.about(2), 5);
        taken(x, "bench(40)", y -> y.bench(40), 3);
        due("another bench", x.about(2), 0);
    }

    private static void nothingToRead() {
        promise = 3;
        WeighingPlates x = new WeighingPlates();
        due("bench(0) of an empty tape", x.bench(0), -1, x, 4);
        due("fault", x.fault(), 1);
        due("where", x.where(), 0);
        give(x, BARE);
        due("bench(0) of a full one", x.bench(0), -1, x, 4);
        due("fault", x.fault(), 1);
        due("where", x.where(), 0);
        due("it is empty then", x.size(5), 0);
        bad("", 1, 0);
        bad(" ", 1, 1);
    }

    private static void onlyFirstBytesCount() {
        promise = 3;
        String text = "bench doubled 2 dark 0 top 999999";
        int top = 0;
        for (int n = 28; n <= 33; n++) {
            top = top * 10 + 9;
            WeighingPlates x = new WeighingPlates();
            give(x, text + "9;?");
            due("bench(" + n + ")", x.bench(n), 3, x, 0);
            due("top", x.about(3), top);
        }
        WeighingPlates x = new WeighingPlates();
        give(x, text + "9;?");
        due("seven digits", x.bench(34), -1, x, 4);
        due("where", x.where(), 27);
    }

    private static WeighingPlates used() {
        WeighingPlates x = of(SMALL + ";noise 1 plus 2;mask 0 1;mask 2");
        x.lose(2);
        x.stick(0, 1);
        x.shine(1, 900);
        x.look(0);
        x.scan();
        x.look(7);
        x.shine(2, 95);
        x.look(7);
        x.undo();
        x.look(1);
        x.scan();
        return x;
    }

    private static void checkUsed(WeighingPlates x) {
        long[] abouts = {3, 0, 5, 999, 914, 2, 8, 0, 1};
        for (int what = 0; what < 9; what++) {
            due("about(" + what + ")", x.about(what), abouts[what]);
        }
        long[] sizes = {2, 1, 1, 1, 3};
        for (int what = 0; what < 5; what++) {
            due("size(" + what + ")", x.size(what), sizes[what]);
        }
        due("shutter", x.shutter(0), 1);
        due("noise", x.noise(1), 2);
        due("lost", x.lost(2), 1);
        due("reading", x.reading(1), 921);
        due("logged", x.logged(0, 1), 15);
        due("told", x.told(), 4);
        due("tour", x.tour(), 4);
    }

    /** "4 (the BENCH stays)", and with it what was seen and can be undone. */
    private static void benchStaysAfterFault() {
        promise = 3;
        WeighingPlates x = used();
        checkUsed(x);
        due("a fault at its end", put(x, "bench squares 7 dark 0 top 9;light 0 1;stuck 1 open;noise 0 less 9;lost 1;mask 0 7"), -1, x, 4);
        checkUsed(x);
        due("a number", x.bench(1), -1, x, 2);
        checkUsed(x);
        for (int i = 0; i < 3; i++) {
            due("undo", x.undo() ? 1 : 0, 1);
        }
        due("none lost", x.size(1), 0);
        due("light", x.light(1), 20);
        due("none stuck", isStuck(x, 0), THROWN);
    }

    /** "(no SCAN, THE LOG empty, nothing to undo, no BEAM opened yet)": of the bench ahead nothing is left, nor of those ahead of it. */
    private static void benchStartsAnew() {
        promise = 3;
        WeighingPlates x = used();
        due("tour", x.tour(), 4);
        for (int i = 0; i < 3; i++) {
            due("a bench", put(x, BARE), 3, x, 0);
            checkBare(x);
        }
        due("a full bench", put(x, BARE + lines(3, "light ", " 7") + ";stuck 0 open;stuck 1 shut;stuck 2 shut"
                + lines(3, "noise ", " plus 7") + lines(3, "lost ", "") + lines(3, "mask ", "")), 3, x, 0);
        due("tour", x.tour(), 5);
        due("a fault behind a full bench", put(x, BARE + lines(3, "light ", " 7") + lines(3, "stuck ", " shut")
                + lines(3, "noise ", " plus 7") + lines(3, "lost ", "") + lines(3, "mask ", "") + ";"), -1, x, 4);
        for (int i = 0; i < 3; i++) {
            due("a bench", put(x, BARE), 3, x, 0);
            checkBare(x);
        }
    }

    private static void checkBare(WeighingPlates x) {
        long[] abouts = {3, 0, 0, 9, 0, 2, 0, 0, 0};
        for (int what = 0; what < 9; what++) {
            due("about(" + what + ")", x.about(what), abouts[what]);
        }
        for (int what = 0; what < 6; what++) {
            due("size(" + what + ")", x.size(what), 0);
        }
        for (int j = 0; j < 3; j++) {
            due("light", x.light(j), 0);
            due("shutter", x.shutter(j), 0);
            due("noise", x.noise(j), 0);
            due("lost", x.lost(j), 0);
        }
        due("told", x.told(), 0);
        due("rank", x.rank(), 0);
        due("tour", x.tour(), 0);
        due("undo", x.undo() ? 1 : 0, 0, x, 1);
        due("logged", x.logged(0, 0), -1, x, 1);
        due("reading", x.reading(0), LOW, x, 5);
        due("odds", x.odds(), -1, x, 5);
        due("mask", x.mask(0), -1, x, 1);
    }

    // ---- tokens

    private static void bytesThatBeginNoToken() {
        promise = 4;
        for (int sign : NO_SIGNS) {
            char c = (char) sign;
            bad(1, "^" + c + BARE);
            bad(1, "bench ^" + c);
            bad(1, "bench doubled^" + c + "2 dark 0 top 9");
            bad(1, "bench doubled ^" + c + "2 dark 0 top 9");
            bad(1, BARE + "^" + c);
            bad(1, BARE + ";^" + c);
            bad(1, BARE + ";^lo" + c + "st 0");
            bad(1, BARE + ";mask 0^" + c + "1");
        }
    }

    /** A blank parts, a digit makes the whole longer, and all others stand for themselves. */
    private static void everyByteBehindWhole() {
        promise = 4;
        for (int sign = 0; sign < 256; sign++) {
            String text = "bench doubled 2" + (char) sign + "dark 0 top 9";
            if (sign == ' ') {
                good(text, 3);
            } else if (sign >= '0' && sign <= '9') {
                bad(text, 2, 14);
            } else {
                bad(text, 1, 15);
            }
        }
    }

    private static void everyByteAsTop() {
        promise = 4;
        for (int sign = 0; sign < 256; sign++) {
            String text = "bench doubled 2 dark 0 top " + (char) sign;
            if (sign >= '1' && sign <= '9') {
                good(text, 3);
            } else if (sign == '0') {
                bad(text, 2, 27);
            } else {
                bad(text, 1, sign == ' ' ? 28 : 27);
            }
        }
    }

    /** "WORDS of 1 to 7 small letters that stand together" */
    private static void lengthsOfWords() {
        promise = 4;
        good("bench doubled 2 dark 0 top 9", 3);
        good("bench squares 3 dark 0 top 9", 3);
        bad(1, "bench ^doubledd 2 dark 0 top 9");
        bad(1, "bench ^doubledark 0");
        bad(1, "bench ^double 2 dark 0 top 9");
        bad(1, "bench ^squaress 3");
        bad(1, "^benchdoubled 2 dark 0 top 9");
        bad(1, "^benchs doubled 2");
        bad(1, "^benc doubled 2");
        bad(1, "^b");
        bad(1, "^abcdefg");
        bad(1, "^abcdefgh");
        bad(1, "bench doubled 2 ^darks 0");
        bad(1, "bench doubled 2 dark 0 ^to 9");
        bad(1, BARE + ";^lights 0 1");
        bad(1, BARE + ";^ligh 0 1");
        bad(1, BARE + ";^lightlight 0 1");
        bad(1, BARE + ";stuck 0 ^opens");
        bad(1, BARE + ";stuck 0 ^ope");
        bad(1, BARE + ";noise 0 ^plu 1");
        bad(1, BARE + ";^masks 0");
    }

    /** Another letter in any place of a word makes it none that a bench goes on with. */
    private static void everyLetterOfWords() {
        promise = 4;
        String text = BARE + ";light 0 7;stuck 1 open;stuck 0 shut;noise 2 less 3;noise 1 plus 3;lost 0;mask 0 2";
        everyLetterOf(text);
        everyLetterOf("bench squares 3 dark 0 top 9");
    }

    private static void everyLetterOf(String text) {
        good(text, 3);
        int start = 0;
        for (int at = 0; at < text.length(); at++) {
            if (text.charAt(at) < 'a') {
                start = at + 1;
                continue;
            }
            for (char other : new char[] {'a', 'q', 'z'}) {
                if (other != text.charAt(at)) {
                    bad(text.substring(0, at) + other + text.substring(at + 1), 1, start);
                }
            }
        }
    }

    /** "WHOLES of 1 to 6 digits that do" */
    private static void lengthsOfWholes() {
        promise = 4;
        good("bench doubled 000005 dark 000999 top 999999", 31);
        good("bench squares 000031 dark 000000 top 000001", 31);
        good(BARE + ";light 000002 009999;noise 000002 plus 000099;lost 000002;mask 000000 000002", 3);
        bad(1, "bench doubled ^0000002 dark 0 top 9");
        bad(1, "bench doubled ^0000009 dark 0 top 9");
        bad(1, "bench doubled 2 dark ^0000000 top 9");
        bad(1, "bench doubled 2 dark 0 top ^0000009");
        bad(1, "bench doubled 2 dark 0 top ^1000000");
        bad(1, "bench doubled 2 dark 0 top ^4294967297");
        bad(1, "bench doubled 2 dark 0 top ^18446744073709551617");
        bad(1, BARE + ";light ^0000000 1");
        bad(1, BARE + ";light 0 ^0000001");
        bad(1, BARE + ";mask 0 ^0000001");
        bad(1, BARE + ";mask 0 ^4294967297");
    }

    // ---- lines

    /** A text that is cut behind each of its tokens: it is whole just where a line ends. */
    private static void everyEnd() {
        promise = 4;
        String[] tokens = (BARE + " ; light 0 7 ; stuck 1 open ; noise 2 less 3 ; lost 0 ; mask 0 2").split(" ");
        int[] whole = {7, 11, 15, 20, 23, 26, 27};
        String text = "";
        int next = 0;
        bad("", 1, 0);
        for (int i = 0; i < tokens.length; i++) {
            text = text + (i == 0 ? "" : " ") + tokens[i];
            if (next < whole.length && i + 1 == whole[next]) {
                good(text, 3);
                good(text + "  ", 3);
                next++;
            } else {
                bad(text, 1, text.length());
                bad(text + "  ", 1, text.length() + 2);
            }
        }
        due("all whole ones were met", next, whole.length);
    }

    private static void breaks() {
        promise = 4;
        bad(1, "^;");
        bad(1, "^;" + BARE);
        bad(1, BARE + ";^");
        bad(1, BARE + ";  ^");
        bad(1, BARE + ";^;");
        bad(1, BARE + ";^;lost 0");
        bad(1, BARE + "  ^lost 0");
        bad(1, BARE + ";lost 0 ^lost 1");
        bad(1, BARE + ";mask 0 ^mask 1");
        bad(1, BARE + ";mask ^;mask 1");
        bad(1, BARE + ";lost ^;");
        bad(1, "bench^;doubled 2 dark 0 top 9");
        bad(1, BARE + "^,lost 0");
        good(BARE + ";lost 0;lost 1", 3);
        good("  " + BARE + "  ;  lost 0  ;  lost 1  ", 3);
        good("bench doubled2dark0top9;light0 7;stuck0open;noise0less9;lost0;mask0 1", 3);
    }

    /** "or TOKEN with which no BENCH goes on" */
    private static void tokensThatDontGoOn() {
        promise = 4;
        bad(1, "^3 bench");
        bad(1, "^doubled 2");
        bad(1, "^open");
        bad(1, "bench ^2");
        bad(1, "bench ^bench");
        bad(1, "bench doubled ^dark");
        bad(1, "bench doubled 2 ^3");
        bad(1, "bench doubled 2 ^top 9");
        bad(1, "bench doubled 2 dark ^top");
        bad(1, "bench doubled 2 dark 0 ^9");
        bad(1, "bench doubled 2 dark 0 top ^nine");
        bad(1, BARE + " ^9");
        bad(1, BARE + ";^9");
        bad(1, BARE + ";^dark 9");
        bad(1, BARE + ";^top 9");
        bad(1, BARE + ";^plus");
        bad(1, BARE + ";light ^light");
        bad(1, BARE + ";light 0 ^open");
        bad(1, BARE + ";light 0 1 ^1");
        bad(1, BARE + ";stuck ^open 0");
        bad(1, BARE + ";stuck 0 ^1");
        bad(1, BARE + ";stuck 0 ^plus");
        bad(1, BARE + ";stuck 0 open ^shut");
        bad(1, BARE + ";noise ^plus 0 1");
        bad(1, BARE + ";noise 0 ^1");
        bad(1, BARE + ";noise 0 ^shut 1");
        bad(1, BARE + ";noise 0 plus ^plus");
        bad(1, BARE + ";noise 0 plus 1 ^1");
        bad(1, BARE + ";lost ^shut");
        bad(1, BARE + ";lost 0 ^1");
        bad(1, BARE + ";mask ^open");
        bad(1, BARE + ";mask 0 1 2 ^light");
    }

    // ---- bounds

    /** "doubled, its WHOLE 2 .. 5" */
    private static void doublings() {
        promise = 4;
        int[] colours = {3, 7, 15, 31};
        for (int k = 2; k <= 5; k++) {
            good("bench doubled " + k + " dark 0 top 9", colours[k - 2]);
        }
        for (int k : new int[] {0, 1, 6, 7, 10, 31, 32, 34, 999999}) {
            bad(2, "bench doubled ^" + k + " dark 0 top 9");
        }
    }

    /** "squares, 3, 7, 11, 19, 23 or 31" */
    private static void primes() {
        promise = 4;
        for (int n = 0; n <= 100; n++) {
            if (n == 3 || n == 7 || n == 11 || n == 19 || n == 23 || n == 31) {
                good("bench squares " + n + " dark 0 top 9", n);
            } else {
                bad(2, "bench squares ^" + n + " dark 0 top 9");
            }
        }
        bad(2, "bench squares ^999999");
    }

    /** "DARK, 0 .. 999; TOP, 1 .. 999,999" */
    private static void darkAndTop() {
        promise = 4;
        WeighingPlates x = of("bench doubled 2 dark 0 top 1");
        due("dark", x.about(2), 0);
        due("top", x.about(3), 1);
        x = of("bench doubled 2 dark 999 top 999999");
        due("dark", x.about(2), 999);
        due("top", x.about(3), 999999);
        bad(2, "bench doubled 2 dark ^1000 top 9");
        bad(2, "bench doubled 2 dark ^999999 top 9");
        bad(2, "bench doubled 2 dark 0 top ^0");
        bad(2, "bench doubled 2 dark 0 top ^000000");
    }

    /** "light COLOUR WHOLE (0 .. 9,999 ..)", "0 at first" */
    private static void lights() {
        promise = 4;
        WeighingPlates x = of(BARE + ";light 0 0;light 2 9999");
        due("light(0)", x.light(0), 0);
        due("light(1), at first", x.light(1), 0);
        due("light(2)", x.light(2), 9999);
        bad(2, BARE + ";light 0 ^10000");
        bad(2, BARE + ";light 2 ^999999");
        bad(2, BARE + ";light ^3 10000");
    }

    /** "plus, or less; 1 .. 99" */
    private static void noises() {
        promise = 4;
        WeighingPlates x = of("bench squares 7 dark 0 top 9;noise 0 plus 1;noise 1 plus 99;noise 2 less 1;noise 6 less 99");
        int[] want = {1, 99, -1, 0, 0, 0, -99};
        for (int i = 0; i < 7; i++) {
            due("noise(" + i + ")", x.noise(i), want[i]);
        }
        bad(2, BARE + ";noise 0 plus ^0");
        bad(2, BARE + ";noise 0 less ^0");
        bad(2, BARE + ";noise 0 plus ^100");
        bad(2, BARE + ";noise 0 less ^100");
        bad(2, BARE + ";noise 0 less ^999999");
    }

    /** "a COLOUR, a PLATE that there isn't; at it" */
    private static void numbersOfEachBench() {
        promise = 4;
        String[] ahead = {";light ", ";stuck ", ";noise ", ";lost ", ";mask "};
        String[] behind = {" 1", " open", " plus 1", "", ""};
        for (int b = 0; b < BENCHES.length; b++) {
            String bench = "bench " + BENCHES[b] + " dark 0 top 9";
            int n = COLOURS[b];
            for (int sort = 0; sort < 5; sort++) {
                good(bench + ahead[sort] + "0" + behind[sort], n);
                good(bench + ahead[sort] + (n - 1) + behind[sort], n);
                for (int number : new int[] {n, n + 1, 32, 63, 64, 999999}) {
                    if (number >= n) {
                        bad(2, bench + ahead[sort] + "^" + number + behind[sort]);
                    }
                }
            }
            bad(2, bench + ";mask 0 " + (n - 1) + " ^" + n);
        }
    }

    // ---- again

    /** "a second bench, at that WORD" */
    private static void secondBench() {
        promise = 4;
        bad(3, BARE + ";^bench");
        bad(3, BARE + ";^" + BARE);
        bad(3, BARE + ";^bench squares 4");
        bad(3, BARE + ";lost 0;  ^bench doubled 2 dark 0 top 9");
        bad(3, BARE + ";^bench ?");
    }

    private static void linesAgain() {
        promise = 4;
        bad(3, BARE + ";light 0 1;light ^0 1");
        bad(3, BARE + ";light 0 0;light 2 0;light ^0 0");
        bad(3, BARE + ";light 2 5;light ^000002 99999");
        bad(3, BARE + ";stuck 0 open;stuck ^0 open");
        bad(3, BARE + ";stuck 2 shut;stuck ^2 open");
        bad(3, BARE + ";noise 0 plus 1;noise ^0 plus 1");
        bad(3, BARE + ";noise 2 less 1;noise ^2 plus 0");
        bad(3, BARE + ";lost 0;lost ^0");
        bad(3, BARE + ";lost 2;lost 1;lost ^2");
        String last = "bench doubled 5 dark 0 top 9";
        bad(3, last + ";light 30 1;light ^30 1");
        bad(3, last + ";stuck 30 open;stuck ^30 open");
        bad(3, last + ";noise 30 plus 1;noise ^30 plus 1");
        bad(3, last + ";lost 30;lost ^30");
        bad(3, last + ";mask 30 ^30");
    }

    private static void coloursOfMaskAgain() {
        promise = 4;
        bad(3, BARE + ";mask 0 ^0");
        bad(3, BARE + ";mask 0 1 2 ^0");
        bad(3, BARE + ";mask 2 1 0 ^2 3");
        bad(3, BARE + ";mask 0;mask 1 ^1");
        StringBuilder all = new StringBuilder("bench doubled 5 dark 0 top 9;mask");
        for (int j = 0; j < 31; j++) {
            all.append(' ').append(j);
        }
        good(all.toString(), 31);
        bad(3, all + " ^30");
        bad(2, all + " ^31");
        bad(1, all + " ^?");
    }

    /** What has a line of another sort, or is in another mask, isn't again; nor is a mask like another. */
    private static void notAgain() {
        promise = 4;
        good(BARE + ";light 0 1;stuck 0 open;noise 0 plus 1;lost 0;mask 0;mask 0", 3);
        good(BARE + ";mask 0 1 2;mask 2 1 0;mask 0 1 2", 3);
        good(BARE + ";light 0 1;light 1 1;light 2 1", 3);
        good(BARE + ";stuck 0 open;stuck 1 open;stuck 2 open", 3);
        good(BARE + ";lost 0;lost 1;lost 2", 3);
        good(BARE + ";noise 0 less 1;noise 1 less 1;noise 2 less 1", 3);
        WeighingPlates x = new WeighingPlates();
        due("a bench", put(x, BARE + ";light 0 1;stuck 0 open;noise 0 plus 1;lost 0"), 3);
        due("the same lines for the next bench", put(x, BARE + ";light 0 1;stuck 0 open;noise 0 plus 1;lost 0"), 3, x, 0);
        due("a fault behind lines", put(x, BARE + ";light 0 1;stuck 0 open;noise 0 plus 1;lost 0;"), -1, x, 4);
        due("the same lines behind a fault", put(x, BARE + ";light 0 1;stuck 0 open;noise 0 plus 1;lost 0"), 3, x, 0);
    }

    // ---- many

    private static void manyStuck() {
        promise = 4;
        String three = ELEVEN + lines(3, "stuck ", " open");
        good(three, 11);
        bad(4, three + ";^stuck 3 open");
        bad(4, three + ";  ^stuck 0 open");
        bad(4, three + ";^stuck 11");
        bad(4, three + ";^stuck");
        bad(4, three + ";^stuck ?");
        bad(4, BARE + lines(3, "stuck ", " shut") + ";^stuck 0 shut");
        good(three + ";light 0 1;noise 0 plus 1;lost 0;mask 0", 11);
    }

    private static void manyNoises() {
        promise = 4;
        String eight = ELEVEN + lines(8, "noise ", " less 1");
        good(ELEVEN + lines(7, "noise ", " less 1") + ";noise 10 plus 1", 11);
        bad(4, eight + ";^noise 8 less 1");
        bad(4, eight + ";^noise 0 less 1");
        bad(4, eight + ";^noise 11");
        bad(4, eight + ";^noise");
        good(eight + ";light 0 1;stuck 0 open;lost 0;mask 0", 11);
    }

    private static void manyLost() {
        promise = 4;
        String three = ELEVEN + lines(3, "lost ", "");
        good(ELEVEN + lines(2, "lost ", "") + ";lost 10", 11);
        bad(4, three + ";^lost 3");
        bad(4, three + ";^lost 0");
        bad(4, three + ";^lost 11");
        bad(4, three + ";^lost");
        bad(4, BARE + lines(3, "lost ", "") + ";^lost 0");
        good(three + ";light 0 1;stuck 0 open;noise 0 plus 1;mask 0", 11);
    }

    private static void manyMasks() {
        promise = 4;
        String eleven = ELEVEN + lines(11, "mask ", "");
        String twelve = eleven + ";mask 10 9 8";
        WeighingPlates x = of(twelve);
        due("masks", x.size(0), 12);
        due("mask(11)", x.mask(11), 0x700);
        bad(4, twelve + ";^mask 0");
        bad(4, twelve + ";^mask 11");
        bad(4, twelve + ";^mask");
        bad(4, twelve + ";^mask 0 0");
        good(twelve + ";light 0 1;stuck 0 open;noise 0 plus 1;lost 0", 11);
    }

    private static void noRoomForLightsIsNeeded() {
        promise = 4;
        String all = "bench doubled 5 dark 0 top 9" + lines(31, "light ", " 9999");
        WeighingPlates x = of(all);
        due("monitor", x.about(4), 31 * 9999);
        bad(3, all + ";light ^30 0");
        bad(2, all + ";light ^31 0");
    }

    // ---- lacks, and which of several

    /** "any LINE ahead of the bench; at its WORD" */
    private static void aheadOfBench() {
        promise = 4;
        for (String line : new String[] {"light 0 1", "stuck 0 open", "noise 0 plus 1", "lost 0", "mask 0"}) {
            bad(5, "^" + line);
            bad(5, "   ^" + line + ";" + BARE);
            bad(5, "^" + line.substring(0, line.indexOf(' ')));
            bad(5, "^" + line.substring(0, line.indexOf(' ')) + " ?");
            WeighingPlates x = of(BARE);
            due("the bench in use is none of the text's", put(x, line), -1, x, 4);
            due("fault", x.fault(), 5);
            due("where", x.where(), 0);
        }
    }

    private static void firstFromTheLeft() {
        promise = 4;
        bad(2, "bench doubled ^6 dark 1000 top 0;bench ?");
        bad(2, "bench doubled 2 dark ^1000 top 0");
        bad(1, "bench ^? doubled 6");
        bad(2, "bench squares ^8 ?");
        bad(2, BARE + ";light ^3 10000;light 0 1;bench");
        bad(3, BARE + ";mask 0 ^0 3");
        bad(2, BARE + ";mask 0 ^3 0");
        bad(1, BARE + ";mask 0 ^open 3");
        bad(5, "^lost 9;lost 9;?");
        bad(3, BARE + ";lost 0;lost ^0;?");
        bad(2, BARE + ";noise 0 plus ^0;noise 0");
        bad(2, BARE + ";light ^3?");
        bad(2, BARE + ";light ^3");
    }

    /** "of one place the least number": at the end FORM, though a bench lacks; a second bench is AGAIN, not MANY. */
    private static void leastOfOnePlace() {
        promise = 4;
        bad(1, "^");
        bad(1, "     ^");
        bad(3, BARE + ";^bench");
        bad(1, "^lights");
    }

    // ---- fault and where

    private static void atFirst() {
        WeighingPlates x = new WeighingPlates();
        promise = 4;
        due("fault without a bench()", x.fault(), 0);
        promise = 5;
        due("where without a call", x.where(), -1);
        x.about(0);
        due("where behind 1", x.where(), -1);
        x.bench(1);
        due("where behind 2", x.where(), -1);
        promise = 4;
        due("fault behind 2", x.fault(), 0);
    }

    /** "The FAULT of the latest bench() not refused by 2; 0 without one." */
    private static void faultIsKept() {
        promise = 4;
        WeighingPlates x = new WeighingPlates();
        put(x, "bench doubled 6");
        due("fault", x.fault(), 2);
        due("asked again", x.fault(), 2);
        x.bench(-1);
        due("behind 2", x.fault(), 2);
        put(x, "lost");
        due("the latest", x.fault(), 5);
        put(x, BARE);
        due("without one", x.fault(), 0);
        x.bench(1);
        due("behind 2", x.fault(), 0);
        x.plate(3);
        x.look(8);
        x.reading(0);
        due("behind other refusals", x.fault(), 0);
        put(x, BARE + ";bench");
        x.look(0);
        x.scan();
        due("behind other calls", x.fault(), 3);
    }

    /** "Its place, if the latest call that may be refused was by 4; NONE else." */
    private static void whereIsGone() {
        promise = 5;
        Call[] calls = {x -> x.about(0), x -> x.about(9), x -> x.look(0), x -> x.look(8), x -> x.scan(), x -> x.reading(0),
            x -> x.bench(99), x -> x.sign(0, 0, 0), x -> x.sign(0, 1, 0), x -> x.undo() ? 1 : 0, x -> x.tour(), x -> x.share(true),
            x -> x.noise(3), x -> x.alones(), x -> x.rank(), x -> x.shine(0, 1), x -> x.lose(0), x -> x.blinds(), x -> x.told()};
        for (int i = 0; i < calls.length; i++) {
            WeighingPlates x = of(BARE);
            put(x, "bench doubled 2 dark 0 9");
            due("where", x.where(), 23);
            x.fault();
            x.trouble();
            x.size(0);
            x.size(9);
            x.feed(0, 0, 0, 0, 0);
            isStuck(x, 0);
            due("behind calls of which no number is told", x.where(), 23);
            calls[i].on(x);
            due("behind call " + i, x.where(), -1);
        }
    }
}
