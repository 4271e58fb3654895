import java.util.NoSuchElementException;

/** A bench that weighs colours through plates of shutters. The document's promises are in ../shared/DOC.md. */
public final class WeighingPlates {
    public static final int NONE = -1;

    private static final int MOST_BYTES = 800;
    private static final int MOST_COLOURS = 31;
    private static final int MOST_MASKS = 12;
    private static final int MOST_STUCK = 3;
    private static final int MOST_NOISES = 8;
    private static final int MOST_LOST = 3;
    private static final int MOST_LOGGED = 20;
    private static final int MOST_UNDONE = 10;
    private static final int MOST_LIGHT = 9999;
    private static final int MOST_DOUBLINGS = 9;

    private static final int FINE = 0;
    private static final int NO_SUCH = 1;
    private static final int BAD_NUMBER = 2;
    private static final int FAULTY = 4;
    private static final int NOT_SO = 5;

    private static final int OPEN = 1;
    private static final int SHUT = 2;

    private final Tape tape = new Tape();
    private final Reader reader = new Reader();
    private final Sight sight = new Sight();
    private final Suspicion suspicion = new Suspicion();
    private final MaskTable table = new MaskTable();
    private final Tour shortest = new Tour();
    private final Acts acts = new Acts();
    /** The bench in use; it changes places with the reader's one, so no bench is made anew. */
    private Bench now = new Bench();
    private boolean ready = false;
    private int why = FINE;
    private int latestFault = 0;
    private int faultPlace = 0;

    public WeighingPlates() {
    }

    // ---- the bench

    public int feed(int a, int b, int c, int d, int e) {
        if (!tape.hasRoom()) {
            return NONE;
        }
        tape.put(a);
        tape.put(b);
        tape.put(c);
        tape.put(d);
        tape.put(e);
        return tape.length;
    }

    public int bench(int n) {
        if (n < 0 || n > tape.length) {
            settle(BAD_NUMBER);
            return NONE;
        }
        boolean good = reader.readAll(tape.bytes, n);
        tape.length = 0;
        latestFault = reader.foundFault;
        faultPlace = reader.foundPlace;
        if (!settle(good ? FINE : FAULTY)) {
            return NONE;
        }
        Bench before = now;
        now = reader.draft;
        reader.draft = before;
        ready = true;
        sight.startAnew();
        acts.clear();
        table.build(now);
        shortest.known = false;
        return now.colours;
    }

    public int fault() {
        return latestFault;
    }

    public int where() {
        return why == FAULTY ? faultPlace : NONE;
    }

    public int about(int what) {
        if (!settle(ready && what >= 0 && what <= 8 ? FINE : NO_SUCH)) {
            return NONE;
        }
        switch (what) {
            case 0:
                return now.colours;
            case 1:
                return now.kind;
            case 2:
                return now.dark;
            case 3:
                return now.top;
            case 4:
                return now.monitor();
            case 5:
                return now.half();
            case 6:
                return sight.beams;
            case 7:
                // Each look shuts its beam before it answers.
                return 0;
            default:
                return sight.blinded;
        }
    }

    // ---- plates

    public int plate(int i) {
        return haveOne(i) ? now.plateBits[i] : NONE;
    }

    public int common(int i, int k) {
        if (!settle(ready && now.has(i) && now.has(k) ? FINE : NO_SUCH)) {
            return NONE;
        }
        return Integer.bitCount(now.plateBits[i] & now.plateBits[k]);
    }

    public int which(int set) {
        if (!haveSet(set)) {
            return NONE;
        }
        for (int i = 0; i < now.colours; i++) {
            if (now.plateBits[i] == set) {
                return i;
            }
        }
        return -2;
    }

    public int apart(int i) {
        if (!haveOne(i)) {
            return NONE;
        }
        int least = now.colours;
        for (int k = 0; k < now.colours; k++) {
            if (k != i) {
                least = Math.min(least, Integer.bitCount(now.plateBits[i] ^ now.plateBits[k]));
            }
        }
        return least;
    }

    public int odd(int plates) {
        if (!haveSet(plates)) {
            return NONE;
        }
        int bits = 0;
        for (int i = 0; i < now.colours; i++) {
            if ((plates >> i & 1) == 1) {
                bits ^= now.plateBits[i];
            }
        }
        return bits;
    }

    // ---- colours

    public int light(int j) {
        return haveOne(j) ? now.lights[j] : NONE;
    }

    public int shutter(int j) {
        return haveOne(j) ? now.shutterOf(j) : NONE;
    }

    public int noise(int i) {
        return haveOne(i) ? now.noises[i] : Integer.MIN_VALUE;
    }

    public int lost(int i) {
        if (!haveOne(i)) {
            return NONE;
        }
        return now.isLost(i) ? 1 : 0;
    }

    // ---- looks

    public int look(int set) {
        if (!haveSet(set)) {
            return NONE;
        }
        int read = sight.lookAt(now, set);
        if (!settle(read >= 0 ? FINE : NOT_SO)) {
            return NONE;
        }
        sight.keep(set, read);
        return read;
    }

    public int logged(int i, int what) {
        boolean there = ready && i >= 0 && i < sight.logSize && (what == 0 || what == 1);
        if (!settle(there ? FINE : NO_SUCH)) {
            return NONE;
        }
        return what == 0 ? sight.logSets[i] : sight.logReads[i];
    }

    public int scan() {
        if (!haveBench()) {
            return NONE;
        }
        int looks = sight.scanAll(now);
        return settle(looks >= 0 ? FINE : NOT_SO) ? looks : NONE;
    }

    public int blinds() {
        if (!haveBench()) {
            return NONE;
        }
        int ahead = 0;
        for (int i = 0; i < now.colours; i++) {
            if (!now.isLost(i)) {
                if (now.readOf(now.plateBits[i]) > now.top) {
                    return ahead;
                }
                ahead++;
            }
        }
        return -2;
    }

    public int reading(int i) {
        if (!haveOne(i) || !settle(sight.scanned && !now.isLost(i) ? FINE : NOT_SO)) {
            return Integer.MIN_VALUE;
        }
        return sight.readings[i];
    }

    public int net(int i) {
        if (!haveOne(i)) {
            return Integer.MIN_VALUE;
        }
        boolean known = sight.scanned && (!now.isLost(i) || now.lostCount() == 1);
        return settle(known ? FINE : NOT_SO) ? sight.nets[i] : Integer.MIN_VALUE;
    }

    // ---- had back

    public long back(int j, boolean lower) {
        if (!haveBackOf(j)) {
            return Long.MIN_VALUE;
        }
        return Ratio.part(sight.backs[j], now.order(), lower);
    }

    public int odds() {
        if (!haveBacks()) {
            return NONE;
        }
        int bits = 0;
        for (int j = 0; j < now.colours; j++) {
            if (sight.backs[j] < 0 || !Ratio.isWhole(sight.backs[j], now.order())) {
                bits |= 1 << j;
            }
        }
        return bits;
    }

    public long more(boolean lower) {
        if (!haveBacks()) {
            return Long.MIN_VALUE;
        }
        long sum = -(long) now.monitor() * now.order();
        for (int j = 0; j < now.colours; j++) {
            sum += sight.backs[j];
        }
        return Ratio.part(sum, now.order(), lower);
    }

    public long error(int j, boolean lower) {
        if (!haveBackOf(j)) {
            return Long.MIN_VALUE;
        }
        return Ratio.part(sight.errorOf(now, j), now.order(), lower);
    }

    public long errors(boolean lower) {
        if (!haveBacks()) {
            return Long.MIN_VALUE;
        }
        long sum = 0;
        for (int j = 0; j < now.colours; j++) {
            long off = sight.errorOf(now, j);
            sum += off * off;
        }
        return Ratio.part(sum, now.orderSquared(), lower);
    }

    public int worst() {
        if (!haveBacks()) {
            return NONE;
        }
        int found = 0;
        long most = -1;
        for (int j = 0; j < now.colours; j++) {
            long off = Math.abs(sight.errorOf(now, j));
            if (off > most) {
                most = off;
                found = j;
            }
        }
        return found;
    }

    public long share(boolean lower) {
        if (!haveBench()) {
            return NONE;
        }
        return Ratio.part(4L * now.colours, now.orderSquared(), lower);
    }

    public long grains(boolean lower) {
        if (!haveBacks()) {
            return Long.MIN_VALUE;
        }
        return Ratio.part(4 * sight.netSum, now.orderSquared(), lower);
    }

    public int better() {
        if (!haveBacks()) {
            return NONE;
        }
        int bits = 0;
        for (int j = 0; j < now.colours; j++) {
            if (4 * sight.netSum < sight.backs[j] * now.order()) {
                bits |= 1 << j;
            }
        }
        return bits;
    }

    public int alone(int j) {
        return haveOne(j) ? now.aloneOf(j) : Integer.MIN_VALUE;
    }

    public long alones() {
        if (!haveBench()) {
            return NONE;
        }
        long sum = 0;
        for (int j = 0; j < now.colours; j++) {
            long off = now.aloneOf(j) - now.lights[j];
            sum += off * off;
        }
        return sum;
    }

    public int closer() {
        if (!haveBacks()) {
            return NONE;
        }
        int bits = 0;
        for (int j = 0; j < now.colours; j++) {
            long off = Math.abs((long) now.aloneOf(j) - now.lights[j]);
            if (Math.abs(sight.errorOf(now, j)) < off * now.order()) {
                bits |= 1 << j;
            }
        }
        return bits;
    }

    // ---- suspects

    public int suspects() {
        return haveSuspects() ? suspicion.count(now, sight) : NONE;
    }

    public int suspect(int i) {
        if (!haveSuspects()) {
            return NONE;
        }
        int number = suspicion.numberOf(i, now, sight);
        return settle(number >= 0 ? FINE : NO_SUCH) ? number : NONE;
    }

    public int supposed(int i, int j) {
        if (!haveOne(j) || !haveSuspects()) {
            return NONE;
        }
        int number = suspicion.numberOf(i, now, sight);
        return settle(number >= 0 ? FINE : NO_SUCH) ? suspicion.lights[j] : NONE;
    }

    // ---- masks

    public int mask(int i) {
        return settle(ready && now.hasMask(i) ? FINE : NO_SUCH) ? now.maskBits[i] : NONE;
    }

    public int rank() {
        return haveBench() ? table.independent : NONE;
    }

    public int told() {
        return haveBench() ? table.toldBits : NONE;
    }

    public long solved(int j, boolean lower) {
        if (!haveTold(j)) {
            return Long.MIN_VALUE;
        }
        return Ratio.part(table.sumOfLooks(now, table.tellers[j]), table.scale, lower);
    }

    public long factor(int j, int i, boolean lower) {
        if (!settle(ready && now.hasMask(i) ? FINE : NO_SUCH) || !haveTold(j)) {
            return Long.MIN_VALUE;
        }
        return Ratio.part(table.times(table.tellers[j], i), table.scale, lower);
    }

    public long shareBy(int j, boolean lower) {
        if (!haveTold(j)) {
            return NONE;
        }
        return Ratio.part(table.squares(now, table.tellers[j]), table.scale * table.scale, lower);
    }

    public int fewer() {
        if (!haveBench()) {
            return NONE;
        }
        long bound = 4L * now.colours * table.scale * table.scale;
        int bits = 0;
        for (int j = 0; j < now.colours; j++) {
            if (table.tells(j) && table.squares(now, table.tellers[j]) * now.orderSquared() < bound) {
                bits |= 1 << j;
            }
        }
        return bits;
    }

    public int agree() {
        if (!haveBench()) {
            return NONE;
        }
        return table.allAgree(now) ? 1 : 0;
    }

    public int tour() {
        if (!haveBench()) {
            return NONE;
        }
        shortest.find(now);
        return shortest.moves;
    }

    public int tourAt(int i) {
        if (!settle(ready && now.hasMask(i) ? FINE : NO_SUCH)) {
            return NONE;
        }
        shortest.find(now);
        return shortest.order[i];
    }

    public int sign(int k, int row, int column) {
        boolean inside = k >= 0 && k <= MOST_DOUBLINGS && row >= 0 && row < 1 << k && column >= 0 && column < 1 << k;
        if (!settle(inside ? FINE : BAD_NUMBER)) {
            return 0;
        }
        // Each doubling turns the sign where both numbers have its bit.
        return (Integer.bitCount(row & column) & 1) == 0 ? 1 : -1;
    }

    // ---- acts

    public int shine(int j, int light) {
        if (!haveOne(j) || !settle(light >= 0 && light <= MOST_LIGHT ? FINE : BAD_NUMBER)) {
            return NONE;
        }
        int before = now.lights[j];
        acts.note(Acts.LIGHT, j, before);
        now.lights[j] = light;
        sight.forget();
        return before;
    }

    public int stick(int j, int how) {
        if (!haveOne(j) || !settle(how >= 0 && how <= SHUT ? FINE : BAD_NUMBER)) {
            return NONE;
        }
        int before = now.shutterOf(j);
        acts.note(Acts.SHUTTER, j, before);
        now.setShutter(j, how);
        sight.forget();
        return before;
    }

    public int lose(int i) {
        if (!haveOne(i) || !settle(now.isLost(i) ? NOT_SO : FINE)) {
            return NONE;
        }
        acts.note(Acts.LOSS, i, 0);
        now.lostBits |= 1 << i;
        sight.forget();
        return now.lostCount();
    }

    public boolean undo() {
        if (!settle(ready && acts.kept > 0 ? FINE : NO_SUCH)) {
            return false;
        }
        acts.takeBack(now);
        sight.forget();
        return true;
    }

    // ---- what is told

    public int stuck(int i) throws NoSuchElementException {
        int ahead = 0;
        if (ready) {
            for (int j = 0; j < now.colours; j++) {
                if (now.shutterOf(j) != 0) {
                    if (ahead == i) {
                        return j;
                    }
                    ahead++;
                }
            }
        }
        throw new NoSuchElementException("no such colour is stuck");
    }

    public int size(int what) {
        switch (what) {
            case 0:
                return ready ? now.masks : 0;
            case 1:
                return ready ? now.lostCount() : 0;
            case 2:
                return sight.logSize;
            case 3:
                return sight.scanned ? 1 : 0;
            case 4:
                return acts.kept;
            case 5:
                return tape.length;
            default:
                return NONE;
        }
    }

    public int trouble() {
        return why;
    }

    // ---- what a call asks for before it answers

    private boolean settle(int reason) {
        why = reason;
        return reason == FINE;
    }

    private boolean haveBench() {
        return settle(ready ? FINE : NO_SUCH);
    }

    /** Colours and plates have the same numbers, so one test serves both. */
    private boolean haveOne(int number) {
        return settle(ready && now.has(number) ? FINE : NO_SUCH);
    }

    private boolean haveSet(int set) {
        return haveBench() && settle(now.isSet(set) ? FINE : BAD_NUMBER);
    }

    private boolean haveBacks() {
        return haveBench() && settle(sight.scanned && now.lostCount() < 2 ? FINE : NOT_SO);
    }

    private boolean haveBackOf(int j) {
        return haveOne(j) && haveBacks();
    }

    private boolean haveSuspects() {
        return haveBench() && settle(sight.scanned && now.lostCount() == 0 ? FINE : NOT_SO);
    }

    private boolean haveTold(int j) {
        return haveOne(j) && settle(table.tells(j) ? FINE : NOT_SO);
    }

    /** Fractions are kept as an upper whole over one that is above 0, and are made lowest when they are told. */
    private static final class Ratio {
        static long part(long upper, long under, boolean lower) {
            long common = commonDivisor(Math.abs(upper), under);
            if (common <= 0) {
                return 0;
            }
            return lower ? under / common : upper / common;
        }

        static boolean isWhole(long upper, long under) {
            return under > 0 && upper % under == 0;
        }

        private static long commonDivisor(long a, long b) {
            long big = a;
            long small = b;
            // Euclid's steps on longs are fewer than 100.
            for (int step = 0; step < 100 && small != 0; step++) {
                long rest = big % small;
                big = small;
                small = rest;
            }
            return big;
        }
    }

    private static final class Tape {
        final int[] bytes = new int[MOST_BYTES];
        int length = 0;

        boolean hasRoom() {
            return length + 20 <= MOST_BYTES;
        }

        void put(int number) {
            for (int shift = 24; shift >= 0 && length < MOST_BYTES; shift -= 8) {
                bytes[length] = number >>> shift & 255;
                length++;
            }
        }
    }

    /** What a text tells, and what acts change of it. */
    private static final class Bench {
        int colours = 0;
        int kind = 0;
        int dark = 0;
        int top = 0;
        int masks = 0;
        int openBits = 0;
        int shutBits = 0;
        int lostBits = 0;
        final int[] plateBits = new int[MOST_COLOURS];
        final int[] lights = new int[MOST_COLOURS];
        final int[] noises = new int[MOST_COLOURS];
        final int[] maskBits = new int[MOST_MASKS];

        void clear() {
            colours = 0;
            kind = 0;
            dark = 0;
            top = 0;
            masks = 0;
            openBits = 0;
            shutBits = 0;
            lostBits = 0;
            for (int j = 0; j < MOST_COLOURS; j++) {
                plateBits[j] = 0;
                lights[j] = 0;
                noises[j] = 0;
            }
        }

        void makeDoubled(int doublings) {
            kind = 0;
            colours = Math.min((1 << doublings) - 1, MOST_COLOURS);
            for (int i = 0; i < colours; i++) {
                int bits = 0;
                for (int j = 0; j < colours; j++) {
                    bits |= (Integer.bitCount(i + 1 & j + 1) & 1) << j;
                }
                plateBits[i] = bits;
            }
        }

        void makeSquares(int prime) {
            kind = 1;
            colours = Math.min(prime, MOST_COLOURS);
            // The rest 0 lets through, too, though it is no square that counts.
            int rests = 1;
            for (int root = 1; root < colours; root++) {
                rests |= 1 << root * root % colours;
            }
            for (int i = 0; i < colours; i++) {
                int bits = 0;
                for (int j = 0; j < colours; j++) {
                    bits |= (rests >> (i + j) % colours & 1) << j;
                }
                plateBits[i] = bits;
            }
        }

        boolean has(int number) {
            return number >= 0 && number < colours;
        }

        boolean hasMask(int number) {
            return number >= 0 && number < masks;
        }

        boolean isSet(int bits) {
            return bits >= 0 && bits >>> colours == 0;
        }

        boolean isLost(int i) {
            return (lostBits >> i & 1) == 1;
        }

        int lostCount() {
            return Integer.bitCount(lostBits);
        }

        /** N + 1: what all fractions of a square of N plates are told by. */
        long order() {
            return colours + 1;
        }

        long orderSquared() {
            return order() * order();
        }

        int half() {
            return (colours + 1) / 2;
        }

        int monitor() {
            int sum = 0;
            for (int j = 0; j < colours; j++) {
                sum += lights[j];
            }
            return sum;
        }

        int shutterOf(int j) {
            if ((openBits >> j & 1) == 1) {
                return OPEN;
            }
            return (shutBits >> j & 1) == 1 ? SHUT : 0;
        }

        void setShutter(int j, int how) {
            openBits &= ~(1 << j);
            shutBits &= ~(1 << j);
            if (how == OPEN) {
                openBits |= 1 << j;
            }
            if (how == SHUT) {
                shutBits |= 1 << j;
            }
        }

        /** What a look would read, were there no top. */
        int readOf(int set) {
            int through = set & ~shutBits | openBits;
            int sum = dark;
            for (int j = 0; j < colours; j++) {
                if ((through >> j & 1) == 1) {
                    sum += lights[j];
                }
            }
            return sum;
        }

        int aloneOf(int j) {
            return readOf(1 << j) + noises[j] - dark;
        }
    }

    /** Reads a text from the left and stops at its first fault; a line's readers leave the token behind it as the next. */
    private static final class Reader {
        private static final int END = 0;
        private static final int WORD = 1;
        private static final int WHOLE = 2;
        private static final int BREAK = 3;
        private static final int NO_TOKEN = 4;

        private static final int FORM = 1;
        private static final int BOUNDS = 2;
        private static final int AGAIN = 3;
        private static final int MANY = 4;
        private static final int LACKS = 5;

        private static final int[] PRIMES = {3, 7, 11, 19, 23, 31};

        int foundFault = 0;
        int foundPlace = 0;

        /** What was read so far. */
        Bench draft = new Bench();
        private int[] bytes = new int[0];
        private int end = 0;
        private int sort = END;
        private int from = 0;
        private int behind = 0;
        private int amount = 0;
        /** The whole that was taken last. */
        private int taken = 0;
        private int litBits = 0;
        private int noisyBits = 0;

        boolean readAll(int[] text, int length) {
            draft.clear();
            bytes = text;
            end = Math.min(length, text.length);
            behind = 0;
            litBits = 0;
            noisyBits = 0;
            foundFault = 0;
            foundPlace = 0;
            next();
            // A line has a byte at least, so there are fewer lines than bytes.
            for (int lines = 0; lines <= MOST_BYTES; lines++) {
                if (!takeLine()) {
                    return false;
                }
                if (sort == END) {
                    return true;
                }
                if (sort != BREAK) {
                    return fail(FORM);
                }
                next();
            }
            return fail(FORM);
        }

        private boolean fail(int number) {
            foundFault = number;
            foundPlace = from;
            return false;
        }

        private void next() {
            from = behind;
            while (from < end && bytes[from] == ' ') {
                from++;
            }
            int letters = runOf('a', 'z');
            int digits = runOf('0', '9');
            if (from >= end) {
                sort = END;
                behind = end;
            } else if (letters > 0) {
                sort = letters <= 7 ? WORD : NO_TOKEN;
                behind = from + letters;
            } else if (digits > 0) {
                sort = digits <= 6 ? WHOLE : NO_TOKEN;
                behind = from + digits;
                amount = wholeOf(behind);
            } else {
                sort = bytes[from] == ';' ? BREAK : NO_TOKEN;
                behind = from + 1;
            }
        }

        /** How many bytes from here on stand together that are of this sort. */
        private int runOf(char low, char high) {
            int at = from;
            while (at < end && bytes[at] >= low && bytes[at] <= high) {
                at++;
            }
            return at - from;
        }

        /** Of a run that is too long for a whole the amount may wrap; it isn't used then. */
        private int wholeOf(int stop) {
            int sum = 0;
            for (int at = from; at < stop && at < end; at++) {
                sum = sum * 10 + bytes[at] - '0';
            }
            return sum;
        }

        private boolean isWord(String word) {
            if (sort != WORD || behind - from != word.length()) {
                return false;
            }
            for (int i = 0; i < word.length() && from + i < end; i++) {
                if (bytes[from + i] != word.charAt(i)) {
                    return false;
                }
            }
            return true;
        }

        private boolean takeWord(String word) {
            if (!isWord(word)) {
                return fail(FORM);
            }
            next();
            return true;
        }

        private boolean takeWhole(int least, int most) {
            if (sort != WHOLE) {
                return fail(FORM);
            }
            if (amount < least || amount > most) {
                return fail(BOUNDS);
            }
            taken = amount;
            next();
            return true;
        }

        /** A colour or a plate that isn't among those that were there before. */
        private boolean takeNew(int before) {
            if (sort == WHOLE && draft.has(amount) && (before >> amount & 1) == 1) {
                return fail(AGAIN);
            }
            return takeWhole(0, draft.colours - 1);
        }

        private boolean takeLine() {
            if (isWord("bench")) {
                return draft.colours > 0 ? fail(AGAIN) : takeBench();
            }
            boolean known = isWord("light") || isWord("stuck") || isWord("noise") || isWord("lost") || isWord("mask");
            if (!known) {
                return fail(FORM);
            }
            if (draft.colours == 0) {
                return fail(LACKS);
            }
            if (isWord("light")) {
                return takeLight();
            }
            if (isWord("stuck")) {
                return takeStuck();
            }
            if (isWord("noise")) {
                return takeNoise();
            }
            return isWord("lost") ? takeLost() : takeMask();
        }

        private boolean takeBench() {
            next();
            boolean doubled = isWord("doubled");
            if (!doubled && !isWord("squares")) {
                return fail(FORM);
            }
            next();
            if (!doubled && sort == WHOLE && !isPrimeOfBench(amount)) {
                return fail(BOUNDS);
            }
            if (!(doubled ? takeWhole(2, 5) : takeWhole(3, MOST_COLOURS))) {
                return false;
            }
            int size = taken;
            if (!takeWord("dark") || !takeWhole(0, 999)) {
                return false;
            }
            draft.dark = taken;
            if (!takeWord("top") || !takeWhole(1, 999999)) {
                return false;
            }
            draft.top = taken;
            if (doubled) {
                draft.makeDoubled(size);
            } else {
                draft.makeSquares(size);
            }
            return true;
        }

        private static boolean isPrimeOfBench(int number) {
            for (int prime : PRIMES) {
                if (prime == number) {
                    return true;
                }
            }
            return false;
        }

        private boolean takeLight() {
            next();
            if (!takeNew(litBits)) {
                return false;
            }
            int colour = taken;
            litBits |= 1 << colour;
            if (!takeWhole(0, MOST_LIGHT)) {
                return false;
            }
            draft.lights[colour] = taken;
            return true;
        }

        private boolean takeStuck() {
            int before = draft.openBits | draft.shutBits;
            if (Integer.bitCount(before) >= MOST_STUCK) {
                return fail(MANY);
            }
            next();
            if (!takeNew(before)) {
                return false;
            }
            boolean open = isWord("open");
            if (!open && !isWord("shut")) {
                return fail(FORM);
            }
            draft.setShutter(taken, open ? OPEN : SHUT);
            next();
            return true;
        }

        private boolean takeNoise() {
            if (Integer.bitCount(noisyBits) >= MOST_NOISES) {
                return fail(MANY);
            }
            next();
            if (!takeNew(noisyBits)) {
                return false;
            }
            int plate = taken;
            noisyBits |= 1 << plate;
            boolean plus = isWord("plus");
            if (!plus && !isWord("less")) {
                return fail(FORM);
            }
            next();
            if (!takeWhole(1, 99)) {
                return false;
            }
            draft.noises[plate] = plus ? taken : -taken;
            return true;
        }

        private boolean takeLost() {
            if (draft.lostCount() >= MOST_LOST) {
                return fail(MANY);
            }
            next();
            if (!takeNew(draft.lostBits)) {
                return false;
            }
            draft.lostBits |= 1 << taken;
            return true;
        }

        private boolean takeMask() {
            if (draft.masks >= MOST_MASKS) {
                return fail(MANY);
            }
            next();
            int bits = 0;
            // No mask has more colours than there are: one more is a fault.
            for (int colours = 0; colours <= MOST_COLOURS && (bits == 0 || sort == WHOLE); colours++) {
                if (!takeNew(bits)) {
                    return false;
                }
                bits |= 1 << taken;
            }
            draft.maskBits[draft.masks] = bits;
            draft.masks++;
            return true;
        }
    }

    /** What was seen: the log, the scan, and what is had back from it. */
    private static final class Sight {
        int beams = 0;
        int blinded = 0;
        int logSize = 0;
        boolean scanned = false;
        /** All net readings together, that of the one lost plate too. */
        long netSum = 0;
        final int[] logSets = new int[MOST_LOGGED];
        final int[] logReads = new int[MOST_LOGGED];
        final int[] readings = new int[MOST_COLOURS];
        final int[] nets = new int[MOST_COLOURS];
        /** What is had back of each colour, times N + 1. */
        final long[] backs = new long[MOST_COLOURS];

        void startAnew() {
            beams = 0;
            blinded = 0;
            forget();
        }

        void forget() {
            logSize = 0;
            scanned = false;
        }

        /** What is read, or -1 if the look is blinded. */
        int lookAt(Bench bench, int set) {
            beams++;
            int read = bench.readOf(set);
            if (read > bench.top) {
                blinded++;
                return -1;
            }
            return read;
        }

        void keep(int set, int read) {
            if (logSize < MOST_LOGGED) {
                logSize++;
            }
            for (int i = logSize - 1; i > 0; i--) {
                logSets[i] = logSets[i - 1];
                logReads[i] = logReads[i - 1];
            }
            logSets[0] = set;
            logReads[0] = read;
        }

        /** How many plates were looked at, or -1 if a look was blinded. */
        int scanAll(Bench bench) {
            scanned = false;
            int looks = 0;
            for (int i = 0; i < bench.colours; i++) {
                if (!bench.isLost(i)) {
                    int read = lookAt(bench, bench.plateBits[i]);
                    if (read < 0) {
                        return -1;
                    }
                    readings[i] = read + bench.noises[i];
                    looks++;
                }
            }
            scanned = true;
            findNets(bench);
            findBacks(bench);
            return looks;
        }

        private void findNets(Bench bench) {
            int sum = 0;
            for (int i = 0; i < bench.colours; i++) {
                nets[i] = bench.isLost(i) ? 0 : readings[i] - bench.dark;
                sum += nets[i];
            }
            netSum = sum;
            if (bench.lostCount() != 1) {
                return;
            }
            int whole = bench.half() * bench.monitor();
            for (int i = 0; i < bench.colours; i++) {
                if (bench.isLost(i)) {
                    nets[i] = whole - sum;
                }
            }
            netSum = whole;
        }

        private void findBacks(Bench bench) {
            for (int j = 0; j < bench.colours; j++) {
                long through = 0;
                for (int i = 0; i < bench.colours; i++) {
                    if ((bench.plateBits[i] >> j & 1) == 1) {
                        through += nets[i];
                    }
                }
                backs[j] = 4 * through - 2 * netSum;
            }
        }

        /** The error of a colour, times N + 1. */
        long errorOf(Bench bench, int j) {
            if (!bench.has(j)) {
                return 0;
            }
            return backs[j] - bench.lights[j] * bench.order();
        }
    }

    /** Finds which one shutter could be stuck. A square of plates can be turned round, so each guess has its one row of lights. */
    private static final class Suspicion {
        /** The lights of the guess that was tried last. */
        final int[] lights = new int[MOST_COLOURS];

        int count(Bench bench, Sight sight) {
            int found = 0;
            for (int number = 0; number <= 2 * bench.colours; number++) {
                if (holds(number, bench, sight)) {
                    found++;
                }
            }
            return found;
        }

        /** The number of the i-th suspect, whose lights stand in the row then; -1 if there is none such. */
        int numberOf(int i, Bench bench, Sight sight) {
            int ahead = 0;
            for (int number = 0; number <= 2 * bench.colours; number++) {
                if (holds(number, bench, sight)) {
                    if (ahead == i) {
                        return number;
                    }
                    ahead++;
                }
            }
            return -1;
        }

        private boolean holds(int number, Bench bench, Sight sight) {
            if (number == 0) {
                return supposeFine(bench, sight) && sumIsRight(bench) && logIsRight(bench, sight, 0, 0);
            }
            int colour = (number - 1) / 2;
            if (!bench.has(colour)) {
                return false;
            }
            if ((number & 1) == 1) {
                return supposeOpen(colour, bench, sight) && sumIsRight(bench)
                        && logIsRight(bench, sight, 1 << colour, 0);
            }
            return supposeShut(colour, bench, sight) && sumIsRight(bench)
                    && logIsRight(bench, sight, 0, 1 << colour);
        }

        private boolean supposeFine(Bench bench, Sight sight) {
            for (int k = 0; k < bench.colours; k++) {
                if (!put(k, sight.backs[k], bench.order())) {
                    return false;
                }
            }
            return true;
        }

        /**
         * A light x that is always there adds x to each net reading, and so 2 x by N + 1 to all that is had back;
         * of its own colour nothing else is had back.
         */
        private boolean supposeOpen(int colour, Bench bench, Sight sight) {
            long added = sight.backs[colour];
            for (int k = 0; k < bench.colours; k++) {
                boolean fits = k == colour ? put(k, added, 2) : put(k, sight.backs[k] - added, bench.order());
                if (!fits) {
                    return false;
                }
            }
            return true;
        }

        /** Nothing is had back of a colour that is stuck shut; only the monitor tells its light. */
        private boolean supposeShut(int colour, Bench bench, Sight sight) {
            if (sight.backs[colour] != 0) {
                return false;
            }
            long rest = bench.monitor();
            for (int k = 0; k < bench.colours; k++) {
                if (k != colour) {
                    if (!put(k, sight.backs[k], bench.order())) {
                        return false;
                    }
                    rest -= lights[k];
                }
            }
            return put(colour, rest, 1);
        }

        private boolean put(int k, long upper, long under) {
            if (k < 0 || k >= MOST_COLOURS || under <= 0 || upper % under != 0) {
                return false;
            }
            long light = upper / under;
            if (light < 0 || light > MOST_LIGHT) {
                return false;
            }
            lights[k] = (int) light;
            return true;
        }

        private boolean sumIsRight(Bench bench) {
            int sum = 0;
            for (int k = 0; k < bench.colours; k++) {
                sum += lights[k];
            }
            return sum == bench.monitor();
        }

        private boolean logIsRight(Bench bench, Sight sight, int open, int shut) {
            for (int i = 0; i < sight.logSize; i++) {
                int through = sight.logSets[i] & ~shut | open;
                int sum = bench.dark;
                for (int k = 0; k < bench.colours; k++) {
                    if ((through >> k & 1) == 1) {
                        sum += lights[k];
                    }
                }
                if (sum != sight.logReads[i]) {
                    return false;
                }
            }
            return true;
        }
    }

    /**
     * The masks, brought to rows that each tell one pivot colour, without fractions: all rows are told times one scale.
     * All numbers in it are determinants of zeros and ones of order 12 at most, so they stay below 10,000.
     */
    private static final class MaskTable {
        int independent = 0;
        int toldBits = 0;
        /** What stands in each row at its pivot; above 0. */
        long scale = 1;
        /** The row that tells a colour, if the colour is told. */
        final int[] tellers = new int[MOST_COLOURS];
        /** Of each mask: its colours and, behind them, how many times each mask goes into the row. */
        private final long[][] rows = new long[MOST_MASKS][MOST_COLOURS + MOST_MASKS];
        /** The pivot colour of a row; -1 if its mask is a sum of masks ahead: then its factors make up nothing. */
        private final int[] pivots = new int[MOST_MASKS];

        void build(Bench bench) {
            scale = 1;
            independent = 0;
            for (int i = 0; i < bench.masks; i++) {
                load(bench, i);
                pivots[i] = firstColour(bench, i);
                if (pivots[i] >= 0) {
                    clearPivot(i, pivots[i]);
                    independent++;
                }
            }
            findTold(bench);
        }

        boolean tells(int j) {
            return j >= 0 && j < MOST_COLOURS && (toldBits >> j & 1) == 1;
        }

        long times(int row, int i) {
            if (row < 0 || row >= MOST_MASKS || i < 0 || i >= MOST_MASKS) {
                return 0;
            }
            return rows[row][MOST_COLOURS + i];
        }

        long squares(Bench bench, int row) {
            long sum = 0;
            for (int i = 0; i < bench.masks; i++) {
                sum += times(row, i) * times(row, i);
            }
            return sum;
        }

        long sumOfLooks(Bench bench, int row) {
            long sum = 0;
            for (int i = 0; i < bench.masks; i++) {
                sum += times(row, i) * (bench.readOf(bench.maskBits[i]) - bench.dark);
            }
            return sum;
        }

        boolean allAgree(Bench bench) {
            for (int i = 0; i < bench.masks; i++) {
                if (pivots[i] < 0 && sumOfLooks(bench, i) != 0) {
                    return false;
                }
            }
            return true;
        }

        /** The mask, less what the rows ahead tell of it. */
        private void load(Bench bench, int i) {
            long[] row = rows[i];
            int bits = bench.maskBits[i];
            for (int c = 0; c < row.length; c++) {
                boolean one = c < MOST_COLOURS ? (bits >> c & 1) == 1 : c == MOST_COLOURS + i;
                row[c] = one ? scale : 0;
            }
            for (int h = 0; h < i; h++) {
                if (pivots[h] >= 0 && (bits >> pivots[h] & 1) == 1) {
                    for (int c = 0; c < row.length; c++) {
                        row[c] -= rows[h][c];
                    }
                }
            }
        }

        private int firstColour(Bench bench, int i) {
            for (int c = 0; c < bench.colours; c++) {
                if (rows[i][c] != 0) {
                    return c;
                }
            }
            return -1;
        }

        /** Takes a new pivot out of all rows ahead; the old scale divides what comes out, by Sylvester's identity. */
        private void clearPivot(int i, int pivot) {
            long[] row = rows[i];
            if (row[pivot] < 0) {
                for (int c = 0; c < row.length; c++) {
                    row[c] = -row[c];
                }
            }
            long newScale = row[pivot];
            for (int h = 0; h < i && scale > 0; h++) {
                if (pivots[h] >= 0) {
                    long[] other = rows[h];
                    long times = other[pivot];
                    for (int c = 0; c < row.length; c++) {
                        other[c] = (newScale * other[c] - times * row[c]) / scale;
                    }
                }
            }
            scale = newScale;
        }

        private void findTold(Bench bench) {
            toldBits = 0;
            for (int i = 0; i < bench.masks; i++) {
                if (pivots[i] >= 0 && hasOnlyPivot(bench, i)) {
                    toldBits |= 1 << pivots[i];
                    tellers[pivots[i]] = i;
                }
            }
        }

        private boolean hasOnlyPivot(Bench bench, int i) {
            for (int c = 0; c < bench.colours; c++) {
                if (c != pivots[i] && rows[i][c] != 0) {
                    return false;
                }
            }
            return true;
        }
    }

    /** The tour with the fewest moves, kept till the masks change. */
    private static final class Tour {
        boolean known = false;
        int moves = 0;
        final int[] order = new int[MOST_MASKS];
        /** Moves from a mask to a mask; the last row: from all shut. */
        private final int[] steps = new int[(MOST_MASKS + 1) * MOST_MASKS];
        /** The fewest moves to come behind a set of masks and its last one; grows when a tour needs more of it. */
        private int[] rest = new int[0];
        private int count = 0;

        void find(Bench bench) {
            if (known) {
                return;
            }
            known = true;
            count = Math.min(bench.masks, MOST_MASKS);
            findSteps(bench);
            if (rest.length < count << count) {
                rest = new int[count << count];
            }
            for (int done = (1 << count) - 1; done > 0; done--) {
                for (int last = 0; last < count; last++) {
                    if ((done >> last & 1) == 1) {
                        rest[done * count + last] = fewestFrom(done, last);
                    }
                }
            }
            moves = fewestFrom(0, MOST_MASKS);
            walk();
        }

        private void findSteps(Bench bench) {
            for (int last = 0; last <= MOST_MASKS; last++) {
                int bits = last < count ? bench.maskBits[last] : 0;
                for (int next = 0; next < count; next++) {
                    steps[last * MOST_MASKS + next] = Integer.bitCount(bits ^ bench.maskBits[next]);
                }
            }
        }

        private int fewestFrom(int done, int last) {
            int fewest = -1;
            for (int next = 0; next < count; next++) {
                if ((done >> next & 1) == 0) {
                    int all = movesBy(done, last, next);
                    if (fewest < 0 || all < fewest) {
                        fewest = all;
                    }
                }
            }
            return Math.max(fewest, 0);
        }

        private int movesBy(int done, int last, int next) {
            return steps[last * MOST_MASKS + next] + rest[(done | 1 << next) * count + next];
        }

        /** Goes on with the first mask by numbers that keeps to the fewest moves, so the row is the first of its like. */
        private void walk() {
            int done = 0;
            int last = MOST_MASKS;
            for (int i = 0; i < count; i++) {
                int next = nextOf(done, last);
                order[i] = next;
                done |= 1 << next;
                last = next;
            }
        }

        private int nextOf(int done, int last) {
            int fewest = fewestFrom(done, last);
            for (int next = 0; next < count; next++) {
                if ((done >> next & 1) == 0 && movesBy(done, last, next) == fewest) {
                    return next;
                }
            }
            return 0;
        }
    }

    /** The latest acts, the oldest first, each with what was there before it. */
    private static final class Acts {
        static final int LIGHT = 0;
        static final int SHUTTER = 1;
        static final int LOSS = 2;

        int kept = 0;
        private final int[] sorts = new int[MOST_UNDONE];
        private final int[] numbers = new int[MOST_UNDONE];
        private final int[] befores = new int[MOST_UNDONE];

        void clear() {
            kept = 0;
        }

        void note(int sort, int number, int before) {
            if (kept >= MOST_UNDONE) {
                dropOldest();
            }
            sorts[kept] = sort;
            numbers[kept] = number;
            befores[kept] = before;
            kept++;
        }

        private void dropOldest() {
            for (int i = 1; i < MOST_UNDONE; i++) {
                sorts[i - 1] = sorts[i];
                numbers[i - 1] = numbers[i];
                befores[i - 1] = befores[i];
            }
            kept = MOST_UNDONE - 1;
        }

        void takeBack(Bench bench) {
            if (kept <= 0) {
                return;
            }
            kept--;
            int number = numbers[kept];
            if (sorts[kept] == LIGHT && bench.has(number)) {
                bench.lights[number] = befores[kept];
            } else if (sorts[kept] == SHUTTER) {
                bench.setShutter(number, befores[kept]);
            } else {
                bench.lostBits &= ~(1 << number);
            }
        }
    }
}
