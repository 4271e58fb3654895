import java.lang.reflect.InvocationTargetException;
import java.lang.reflect.Method;
import java.lang.reflect.Modifier;
import java.math.BigInteger;
import java.nio.ByteBuffer;
import java.nio.charset.StandardCharsets;
import java.util.ArrayDeque;
import java.util.ArrayList;
import java.util.Arrays;
import java.util.Comparator;
import java.util.Deque;
import java.util.HashMap;
import java.util.HashSet;
import java.util.List;
import java.util.Map;
import java.util.NoSuchElementException;
import java.util.Random;
import java.util.Set;
import java.util.regex.Matcher;
import java.util.regex.Pattern;

/** Runs of chance calls, each answered by the class and by a slow model that follows the document's words. */
public final class OracleTest {
    private static final int RUNS = 900;
    private static final int MOST_CALLS = 500;
    private static int wrong = 0;

    public static void main(String[] args) throws Exception {
        Map<String, int[]> seen = new HashMap<>();
        for (int run = 0; run < RUNS && wrong < 20; run++) {
            oneRun(run, seen);
        }
        for (Map.Entry<String, int[]> entry : seen.entrySet()) {
            // A call that never answers, or is never refused, is hardly tested.
            if (entry.getValue()[0] == 0) {
                wrong++;
                System.out.println(entry.getKey() + " was never answered");
            }
        }
        System.out.println(wrong == 0 ? "all answers are as the model's" : wrong + " answers are not");
        if (wrong != 0) {
            System.exit(1);
        }
    }

    private static void oneRun(int run, Map<String, int[]> seen) throws Exception {
        Random chance = new Random((1000L + run) * 0x9E3779B97F4A7C15L);
        WeighingPlates real = new WeighingPlates();
        Model model = new Model();
        List<Method> calls = new ArrayList<>();
        for (Method m : WeighingPlates.class.getDeclaredMethods()) {
            if (Modifier.isPublic(m.getModifiers()) && !m.getName().equals("feed") && !m.getName().equals("bench")) {
                calls.add(m);
            }
        }
        calls.sort(Comparator.comparing(Method::getName));
        StringBuilder story = new StringBuilder();
        int count = 0;
        boolean calm = chance.nextBoolean();
        boolean busy = !calm && chance.nextBoolean();
        while (count < MOST_CALLS && wrong < 20) {
            if (chance.nextInt(model.ready ? 90 : 6) == 0) {
                count += feedText(chance, real, model, story, run);
            }
            Method call = calls.get(chance.nextInt(calls.size()));
            int kind = chance.nextInt(100);
            // What was seen is ended by acts and must often be there, so scans come often and acts seldom.
            if (model.ready && model.readings == null && kind < 20) {
                call = named(calls, "scan");
            } else if (kind > (calm ? 75 : 95)) {
                call = named(calls, kind % 4 == 0 ? "logged" : "look");
            } else if (busy && kind < 40) {
                call = named(calls, new String[] {"shine", "stick", "lose", "shine", "undo"}[kind % 5]);
            } else if (isAct(call) && chance.nextInt(calm ? 10 : 2) > 0) {
                continue;
            }
            Object[] values = valuesFor(call, chance, model);
            String mine = answer(call, real, values);
            Method other = Model.class.getMethod(call.getName(), call.getParameterTypes());
            String due = answer(other, model, values);
            count++;
            story.append(call.getName()).append(Arrays.toString(values)).append(" -> ").append(mine).append('\n');
            seen.computeIfAbsent(call.getName(), k -> new int[1])[0] += model.trouble == 0 ? 1 : 0;
            compare(run, call.getName() + Arrays.toString(values), mine, due, story);
            compareState(run, real, model, story);
            count += 3;
        }
    }

    private static void compareState(int run, WeighingPlates real, Model model, StringBuilder story) {
        compare(run, "trouble()", "" + real.trouble(), "" + model.trouble(), story);
        compare(run, "where()", "" + real.where(), "" + model.where(), story);
        compare(run, "fault()", "" + real.fault(), "" + model.fault(), story);
    }

    private static void compare(int run, String what, String mine, String due, StringBuilder story) {
        if (!mine.equals(due)) {
            wrong++;
            System.out.println("run " + run + ": " + what + " answered " + mine + ", due is " + due);
            if (wrong == 1) {
                System.out.println(story);
            }
        }
    }

    private static boolean isAct(Method call) {
        return List.of("shine", "stick", "lose", "undo").contains(call.getName());
    }

    private static Method named(List<Method> calls, String name) {
        for (Method m : calls) {
            if (m.getName().equals(name)) {
                return m;
            }
        }
        throw new IllegalStateException(name);
    }

    private static String answer(Method call, Object on, Object[] values) throws Exception {
        try {
            return "" + call.invoke(on, values);
        } catch (InvocationTargetException e) {
            if (e.getCause() instanceof NoSuchElementException) {
                return "throws.NoSuchElementException";
            }
            throw new IllegalStateException(call.getName() + Arrays.toString(values), e.getCause());
        }
    }

    private static Object[] valuesFor(Method call, Random chance, Model model) {
        Class<?>[] types = call.getParameterTypes();
        Object[] values = new Object[types.length];
        for (int p = 0; p < types.length; p++) {
            if (types[p] == boolean.class) {
                values[p] = chance.nextBoolean();
            } else {
                values[p] = valueFor(call.getName(), p, chance, model);
            }
        }
        if (call.getName().equals("sign") && chance.nextInt(3) > 0) {
            int k = chance.nextInt(10);
            values[0] = k;
            values[1] = chance.nextInt((1 << k) + 1);
            values[2] = chance.nextInt((1 << k) + 1);
        }
        return values;
    }

    private static int valueFor(String name, int p, Random chance, Model model) {
        int n = Math.max(1, model.n);
        int wild = chance.nextInt(40);
        if (wild == 0) {
            return chance.nextInt();
        }
        if (wild == 1) {
            return new int[] {Integer.MIN_VALUE, Integer.MAX_VALUE, -1, n, 1 << 30, 31, 32}[chance.nextInt(7)];
        }
        switch (name + p) {
            case "about0":
                return chance.nextInt(10);
            case "size0":
                return chance.nextInt(8) - 1;
            case "which0":
            case "odd0":
            case "look0":
                if (chance.nextInt(3) == 0) {
                    return 1 << chance.nextInt(n);
                }
                if (name.equals("which") && model.ready && chance.nextBoolean()) {
                    return model.bits(chance.nextInt(n));
                }
                return chance.nextInt() & (int) ((1L << n) - 1);
            case "logged0":
                return chance.nextInt(model.log.size() + 1);
            case "tourAt0":
            case "mask0":
            case "factor1":
                return chance.nextInt(model.masks.size() + 1);
            case "logged1":
                return chance.nextInt(8) == 0 ? chance.nextInt(4) - 1 : chance.nextInt(2);
            case "factor0":
            case "solved0":
            case "shareBy0":
                List<Integer> among = new ArrayList<>();
                model.masks.forEach(among::addAll);
                return among.isEmpty() ? chance.nextInt(n + 1) : among.get(chance.nextInt(among.size()));
            case "suspect0":
            case "supposed0":
            case "stuck0":
                return chance.nextInt(4);
            case "shine1":
                return chance.nextInt(4) == 0 ? chance.nextInt(10002) - 1 : chance.nextInt(50);
            case "stick1":
                return chance.nextInt(4);
            default:
                return chance.nextInt(n + 1);
        }
    }

    private static int feedText(Random chance, WeighingPlates real, Model model, StringBuilder story, int run) {
        String text = new Texts(chance).make();
        byte[] bytes = text.getBytes(StandardCharsets.ISO_8859_1);
        int calls = 0;
        for (int at = 0; at < bytes.length; at += 20) {
            int[] five = new int[5];
            for (int i = 0; i < 20; i++) {
                int b = at + i < bytes.length ? bytes[at + i] & 255 : 32;
                five[i / 4] = five[i / 4] << 8 | b;
            }
            compare(run, "feed", "" + real.feed(five[0], five[1], five[2], five[3], five[4]),
                    "" + model.feed(five[0], five[1], five[2], five[3], five[4]), story);
            calls++;
        }
        int length = chance.nextInt(20) == 0 ? chance.nextInt(bytes.length + 30) - 2 : bytes.length;
        story.append("text ").append(text).append(" bench ").append(length).append('\n');
        compare(run, "bench", "" + real.bench(length), "" + model.bench(length), story);
        compareState(run, real, model, story);
        return calls + 4;
    }

    /** Texts of benches, many of them faulty. */
    private static final class Texts {
        private final Random chance;
        private int n;

        Texts(Random chance) {
            this.chance = chance;
        }

        String make() {
            List<String> lines = new ArrayList<>();
            lines.add(benchLine());
            boolean few = chance.nextBoolean();
            addLights(lines, few);
            addRest(lines);
            while (String.join(";", lines).length() > 780) {
                lines.remove(lines.size() / 2);
            }
            if (chance.nextInt(3) == 0) {
                spoilLines(lines);
            }
            String text = String.join(chance.nextInt(4) == 0 ? " ; " : ";", lines);
            if (chance.nextInt(5) == 0) {
                text = text.replace(" ", "  ");
            }
            if (chance.nextInt(5) == 0) {
                text = text.replaceAll("([a-z]) ([0-9])", "$1$2").replaceAll("([0-9]) ([a-z])", "$1$2");
            }
            if (chance.nextInt(3) == 0) {
                text = spoil(text);
            }
            return text.length() > 800 ? text.substring(0, 800) : text;
        }

        private String benchLine() {
            int top = chance.nextInt(4) == 0 ? 1 + chance.nextInt(500) : chance.nextBoolean() ? 999999 : 20000;
            int dark = chance.nextInt(3) == 0 ? 0 : chance.nextInt(1000);
            if (chance.nextBoolean()) {
                int k = 2 + chance.nextInt(chance.nextInt(4) == 0 ? 4 : 2);
                n = (1 << k) - 1;
                return "bench doubled " + k + " dark " + dark + " top " + top;
            }
            int[] primes = {3, 7, 11, 19, 23, 31};
            n = primes[chance.nextInt(chance.nextInt(4) == 0 ? 6 : 3)];
            return "bench squares " + n + " dark " + dark + " top " + top;
        }

        private void addLights(List<String> lines, boolean few) {
            int most = new int[] {5, 40, 999, 9999}[chance.nextInt(4)];
            for (int j = 0; j < n; j++) {
                if (!few || chance.nextInt(3) == 0) {
                    lines.add("light " + j + " " + chance.nextInt(most + 1));
                }
            }
        }

        private void addRest(List<String> lines) {
            int stuck = chance.nextInt(2) * (1 + chance.nextInt(2) * chance.nextInt(4));
            for (int j : some(stuck)) {
                lines.add("stuck " + j + (chance.nextBoolean() ? " open" : " shut"));
            }
            if (chance.nextInt(3) == 0) {
                int amount = (1 + chance.nextInt(9)) * (chance.nextBoolean() ? 1 : (n + 1) / 4);
                boolean plus = chance.nextBoolean();
                for (int i : some(chance.nextBoolean() ? 2 : chance.nextInt(10))) {
                    plus = !plus;
                    int size = chance.nextInt(4) == 0 ? 1 + chance.nextInt(99) : amount;
                    lines.add("noise " + i + (plus ? " plus " : " less ") + size);
                }
            }
            for (int i : some(chance.nextInt(3) == 0 ? chance.nextInt(4) : 0)) {
                lines.add("lost " + i);
            }
            if (chance.nextInt(6) == 0) {
                addStar(lines);
                return;
            }
            int masks = chance.nextInt(3) == 0 ? chance.nextInt(14) : chance.nextInt(6);
            List<Integer> among = some(Math.min(n, 2 + chance.nextInt(5)));
            for (int i = 0; i < masks; i++) {
                StringBuilder line = new StringBuilder("mask");
                for (int j : chance.nextInt(4) == 0 ? some(1 + chance.nextInt(n)) : among) {
                    if (chance.nextBoolean() || line.length() == 4) {
                        line.append(' ').append(j);
                    }
                }
                lines.add(line.toString());
            }
        }

        /** Pairs with one colour in common, and all the others of them: few masks tell that colour well. */
        private void addStar(List<String> lines) {
            List<Integer> row = some(3 + chance.nextInt(9));
            StringBuilder others = new StringBuilder("mask");
            int at = lines.size();
            for (int j : row.subList(1, row.size())) {
                lines.add(at + chance.nextInt(lines.size() + 1 - at), "mask " + row.get(0) + " " + j);
                others.append(' ').append(j);
            }
            lines.add(at + chance.nextInt(lines.size() + 1 - at), others.toString());
        }

        private List<Integer> some(int count) {
            List<Integer> all = new ArrayList<>();
            for (int j = 0; j < n; j++) {
                all.add(j);
            }
            java.util.Collections.shuffle(all, chance);
            return new ArrayList<>(all.subList(0, Math.min(count, n)));
        }

        private void spoilLines(List<String> lines) {
            int at = chance.nextInt(lines.size());
            int to = chance.nextInt(lines.size() + 1);
            String[] more = {"lost 0", "stuck 1 open", "noise 2 less 3", "mask 0", "mask 0 1 0", "light 0 10000", "light 31 5",
                "bench", "stuck 0", "noise 0 plus 0", "noise 0 plus 100", "noise 99 plus 1", "lost 77", "", "mask"};
            switch (chance.nextInt(4)) {
                case 0:
                    lines.add(to, lines.get(at));
                    break;
                case 1:
                    lines.remove(at);
                    break;
                default:
                    lines.add(to, more[chance.nextInt(more.length)]);
            }
        }

        private String spoil(String text) {
            StringBuilder s = new StringBuilder(text);
            String signs = " ;;019azbA-\t\0\377";
            int at = chance.nextInt(s.length() + 1);
            switch (chance.nextInt(5)) {
                case 0:
                    s.insert(at, signs.charAt(chance.nextInt(signs.length())));
                    break;
                case 1:
                    s.delete(at, Math.min(s.length(), at + 1 + chance.nextInt(3)));
                    break;
                case 2:
                    s.setLength(at);
                    break;
                case 3:
                    s.insert(at, chance.nextBoolean() ? "1234567" : "abcdefgh");
                    break;
                default:
                    s.insert(at, "000000".substring(chance.nextInt(6)));
            }
            return s.toString();
        }
    }

    /** A fraction, exact. */
    private static final class F {
        static final F ZERO = of(0);
        final BigInteger up;
        final BigInteger down;

        F(BigInteger a, BigInteger b) {
            BigInteger g = a.gcd(b);
            if (b.signum() < 0) {
                g = g.negate();
            }
            up = a.divide(g);
            down = b.divide(g);
        }

        static F of(long a) {
            return new F(BigInteger.valueOf(a), BigInteger.ONE);
        }

        static F of(long a, long b) {
            return new F(BigInteger.valueOf(a), BigInteger.valueOf(b));
        }

        F plus(F o) {
            return new F(up.multiply(o.down).add(o.up.multiply(down)), down.multiply(o.down));
        }

        F less(F o) {
            return plus(new F(o.up.negate(), o.down));
        }

        F times(F o) {
            return new F(up.multiply(o.up), down.multiply(o.down));
        }

        F by(F o) {
            return new F(up.multiply(o.down), down.multiply(o.up));
        }

        F size() {
            return new F(up.abs(), down);
        }

        boolean isBelow(F o) {
            return less(o).up.signum() < 0;
        }

        boolean isZero() {
            return up.signum() == 0;
        }

        long part(boolean lower) {
            return (lower ? down : up).longValueExact();
        }
    }

    /** The document's words, one after another, without thought of speed. */
    public static final class Model {
        private static final long PRIME = 2147483647L;
        byte[] tape = new byte[0];
        boolean ready;
        int n;
        int kind;
        int dark;
        int top;
        boolean[][] cell;
        int[] light;
        int[] shutter;
        int[] noise;
        boolean[] lost;
        List<Set<Integer>> masks = new ArrayList<>();
        List<int[]> log = new ArrayList<>();
        Integer[] readings;
        int beams;
        int blinded;
        Deque<int[]> acts = new ArrayDeque<>();
        int trouble;
        int fault;
        int place;
        private List<int[]> suspectRows;
        private int[] tourRow;
        private int tourMoves;

        public int feed(int a, int b, int c, int d, int e) {
            if (tape.length + 20 > 800) {
                return -1;
            }
            byte[] longer = Arrays.copyOf(tape, tape.length + 20);
            ByteBuffer.wrap(longer, tape.length, 20).putInt(a).putInt(b).putInt(c).putInt(d).putInt(e);
            tape = longer;
            return tape.length;
        }

        public int bench(int count) {
            if (count < 0 || count > tape.length) {
                trouble = 2;
                return -1;
            }
            String text = new String(tape, 0, count, StandardCharsets.ISO_8859_1);
            tape = new byte[0];
            Parse parse = new Parse(text);
            fault = parse.fault();
            if (fault != 0) {
                place = parse.place();
                trouble = 4;
                return -1;
            }
            trouble = 0;
            take(parse);
            return n;
        }

        private void take(Parse parse) {
            ready = true;
            n = parse.n;
            kind = parse.kind;
            dark = parse.dark;
            top = parse.top;
            light = new int[n];
            shutter = new int[n];
            noise = new int[n];
            lost = new boolean[n];
            masks = parse.masks;
            parse.lights.forEach((j, v) -> light[j] = v);
            parse.stuck.forEach((j, v) -> shutter[j] = v);
            parse.noises.forEach((j, v) -> noise[j] = v);
            parse.lost.forEach(i -> lost[i] = true);
            cell = new boolean[n][n];
            for (int i = 0; i < n; i++) {
                for (int j = 0; j < n; j++) {
                    cell[i][j] = kind == 0 ? oddCommonBits(i + 1, j + 1) : isRest((i + j) % n);
                }
            }
            beams = 0;
            blinded = 0;
            acts.clear();
            end();
            tourRow = null;
        }

        private static boolean oddCommonBits(int a, int b) {
            boolean odd = false;
            for (int bit = 1; bit < 64; bit *= 2) {
                if (a / bit % 2 == 1 && b / bit % 2 == 1) {
                    odd = !odd;
                }
            }
            return odd;
        }

        private boolean isRest(int rest) {
            if (rest == 0) {
                return true;
            }
            for (int a = 1; a < 10 * n; a++) {
                if (a % n != 0 && a * a % n == rest) {
                    return true;
                }
            }
            return false;
        }

        private void end() {
            readings = null;
            log.clear();
            suspectRows = null;
        }

        private boolean ok(int why) {
            trouble = why;
            return why == 0;
        }

        private boolean one(int j) {
            return ok(ready && j >= 0 && j < n ? 0 : 1);
        }

        private boolean isSet(int set) {
            return set >= 0 && set < 1L << n;
        }

        private int lostCount() {
            int c = 0;
            for (boolean l : lost) {
                c += l ? 1 : 0;
            }
            return c;
        }

        public int fault() {
            return fault;
        }

        public int where() {
            return trouble == 4 ? place : -1;
        }

        public int trouble() {
            return trouble;
        }

        private int monitor() {
            return Arrays.stream(light).sum();
        }

        public int about(int what) {
            if (!ok(ready && what >= 0 && what <= 8 ? 0 : 1)) {
                return -1;
            }
            int lets = 0;
            for (int j = 0; j < n; j++) {
                lets += cell[n - 1][j] ? 1 : 0;
            }
            return new int[] {n, kind, dark, top, monitor(), lets, beams, 0, blinded}[what];
        }

        int bits(int i) {
            int b = 0;
            for (int j = 0; j < n; j++) {
                b += cell[i][j] ? 1 << j : 0;
            }
            return b;
        }

        public int plate(int i) {
            return one(i) ? bits(i) : -1;
        }

        public int common(int i, int k) {
            if (!one(i) || !one(k)) {
                return -1;
            }
            int c = 0;
            for (int j = 0; j < n; j++) {
                c += cell[i][j] && cell[k][j] ? 1 : 0;
            }
            return c;
        }

        public int which(int set) {
            if (!ok(!ready ? 1 : isSet(set) ? 0 : 2)) {
                return -1;
            }
            for (int i = 0; i < n; i++) {
                if (bits(i) == set) {
                    return i;
                }
            }
            return -2;
        }

        public int apart(int i) {
            if (!one(i)) {
                return -1;
            }
            int least = 99;
            for (int k = 0; k < n; k++) {
                int c = 0;
                for (int j = 0; j < n; j++) {
                    c += cell[i][j] != cell[k][j] ? 1 : 0;
                }
                least = k == i ? least : Math.min(least, c);
            }
            return least;
        }

        public int odd(int plates) {
            if (!ok(!ready ? 1 : isSet(plates) ? 0 : 2)) {
                return -1;
            }
            int all = 0;
            for (int j = 0; j < n; j++) {
                int c = 0;
                for (int i = 0; i < n; i++) {
                    c += (plates >> i & 1) == 1 && cell[i][j] ? 1 : 0;
                }
                all += c % 2 << j;
            }
            return all;
        }

        public int light(int j) {
            return one(j) ? light[j] : -1;
        }

        public int shutter(int j) {
            return one(j) ? shutter[j] : -1;
        }

        public int noise(int i) {
            return one(i) ? noise[i] : Integer.MIN_VALUE;
        }

        public int lost(int i) {
            return one(i) ? lost[i] ? 1 : 0 : -1;
        }

        private int read(Set<Integer> set, int[] lights, int[] shutters) {
            int sum = dark;
            for (int j = 0; j < n; j++) {
                if (set.contains(j) && shutters[j] != 2 || shutters[j] == 1) {
                    sum += lights[j];
                }
            }
            return sum;
        }

        private Set<Integer> setOf(int bits) {
            Set<Integer> set = new HashSet<>();
            for (int j = 0; j < n; j++) {
                if ((bits >> j & 1) == 1) {
                    set.add(j);
                }
            }
            return set;
        }

        public int look(int set) {
            if (!ok(!ready ? 1 : isSet(set) ? 0 : 2)) {
                return -1;
            }
            beams++;
            int read = read(setOf(set), light, shutter);
            if (read > top) {
                blinded++;
                trouble = 5;
                return -1;
            }
            log.add(0, new int[] {set, read});
            if (log.size() > 20) {
                log.remove(20);
            }
            suspectRows = null;
            return read;
        }

        public int logged(int i, int what) {
            return ok(ready && i >= 0 && i < log.size() && what >= 0 && what <= 1 ? 0 : 1) ? log.get(i)[what] : -1;
        }

        public int scan() {
            if (!ok(ready ? 0 : 1)) {
                return -1;
            }
            readings = null;
            suspectRows = null;
            Integer[] row = new Integer[n];
            int count = 0;
            for (int i = 0; i < n; i++) {
                if (lost[i]) {
                    continue;
                }
                beams++;
                int read = read(setOf(bits(i)), light, shutter);
                if (read > top) {
                    blinded++;
                    trouble = 5;
                    return -1;
                }
                row[i] = read + noise[i];
                count++;
            }
            readings = row;
            return count;
        }

        public int blinds() {
            if (!ok(ready ? 0 : 1)) {
                return -1;
            }
            int ahead = 0;
            for (int i = 0; i < n; i++) {
                if (!lost[i]) {
                    if (read(setOf(bits(i)), light, shutter) > top) {
                        return ahead;
                    }
                    ahead++;
                }
            }
            return -2;
        }

        public int reading(int i) {
            if (!one(i) || !ok(readings == null || lost[i] ? 5 : 0)) {
                return Integer.MIN_VALUE;
            }
            return readings[i];
        }

        private int netOf(int i) {
            if (!lost[i]) {
                return readings[i] - dark;
            }
            int rest = (n + 1) / 2 * monitor();
            for (int k = 0; k < n; k++) {
                rest -= k == i ? 0 : readings[k] - dark;
            }
            return rest;
        }

        public int net(int i) {
            if (!one(i) || !ok(readings == null || lost[i] && lostCount() > 1 ? 5 : 0)) {
                return Integer.MIN_VALUE;
            }
            return netOf(i);
        }

        private boolean backs() {
            return ok(!ready ? 1 : readings == null || lostCount() >= 2 ? 5 : 0);
        }

        private F hadBack(int j) {
            long sum = 0;
            for (int i = 0; i < n; i++) {
                sum += cell[i][j] ? 4L * netOf(i) : 0;
                sum -= 2L * netOf(i);
            }
            return F.of(sum, n + 1);
        }

        private F errorOf(int j) {
            return hadBack(j).less(F.of(light[j]));
        }

        public long back(int j, boolean lower) {
            return one(j) && backs() ? hadBack(j).part(lower) : Long.MIN_VALUE;
        }

        public int odds() {
            if (!backs()) {
                return -1;
            }
            int all = 0;
            for (int j = 0; j < n; j++) {
                F f = hadBack(j);
                all |= f.isBelow(F.ZERO) || f.part(true) != 1 ? 1 << j : 0;
            }
            return all;
        }

        public long more(boolean lower) {
            if (!backs()) {
                return Long.MIN_VALUE;
            }
            F sum = F.of(-monitor());
            for (int j = 0; j < n; j++) {
                sum = sum.plus(hadBack(j));
            }
            return sum.part(lower);
        }

        public long error(int j, boolean lower) {
            return one(j) && backs() ? errorOf(j).part(lower) : Long.MIN_VALUE;
        }

        public long errors(boolean lower) {
            if (!backs()) {
                return Long.MIN_VALUE;
            }
            F sum = F.ZERO;
            for (int j = 0; j < n; j++) {
                sum = sum.plus(errorOf(j).times(errorOf(j)));
            }
            return sum.part(lower);
        }

        public int worst() {
            if (!backs()) {
                return -1;
            }
            int found = 0;
            for (int j = 1; j < n; j++) {
                if (errorOf(found).size().isBelow(errorOf(j).size())) {
                    found = j;
                }
            }
            return found;
        }

        private F shareOf() {
            return F.of(4L * n, (n + 1L) * (n + 1));
        }

        public long share(boolean lower) {
            return ok(ready ? 0 : 1) ? shareOf().part(lower) : -1;
        }

        private F grainsOf() {
            long sum = 0;
            for (int i = 0; i < n; i++) {
                sum += netOf(i);
            }
            return F.of(4 * sum, (n + 1L) * (n + 1));
        }

        public long grains(boolean lower) {
            return backs() ? grainsOf().part(lower) : Long.MIN_VALUE;
        }

        public int better() {
            if (!backs()) {
                return -1;
            }
            int all = 0;
            for (int j = 0; j < n; j++) {
                all |= grainsOf().isBelow(hadBack(j)) ? 1 << j : 0;
            }
            return all;
        }

        private int aloneOf(int j) {
            return read(Set.of(j), light, shutter) + noise[j] - dark;
        }

        public int alone(int j) {
            return one(j) ? aloneOf(j) : Integer.MIN_VALUE;
        }

        public long alones() {
            if (!ok(ready ? 0 : 1)) {
                return -1;
            }
            long sum = 0;
            for (int j = 0; j < n; j++) {
                sum += (long) (aloneOf(j) - light[j]) * (aloneOf(j) - light[j]);
            }
            return sum;
        }

        public int closer() {
            if (!backs()) {
                return -1;
            }
            int all = 0;
            for (int j = 0; j < n; j++) {
                all |= errorOf(j).size().isBelow(F.of(Math.abs(aloneOf(j) - light[j]))) ? 1 << j : 0;
            }
            return all;
        }

        /** Rows: the suspect's number, then its lights. */
        private List<int[]> suspectList() {
            if (suspectRows == null) {
                suspectRows = new ArrayList<>();
                for (int s = 0; s <= 2 * n; s++) {
                    int[] row = supposeBy(s);
                    if (row != null) {
                        suspectRows.add(row);
                    }
                }
            }
            return suspectRows;
        }

        private int[] supposeBy(int s) {
            int[] shutters = new int[n];
            if (s > 0) {
                shutters[(s - 1) / 2] = s % 2 == 1 ? 1 : 2;
            }
            long[][] m = new long[n + 1][n + 1];
            for (int i = 0; i <= n; i++) {
                for (int j = 0; j < n; j++) {
                    boolean comes = i == n || shutters[j] == 1 || cell[i][j] && shutters[j] != 2;
                    m[i][j] = comes ? 1 : 0;
                }
                m[i][n] = Math.floorMod((long) (i == n ? monitor() : readings[i] - dark), PRIME);
            }
            int[] lights = solve(m);
            if (lights == null || Arrays.stream(lights).asLongStream().sum() != monitor()) {
                return null;
            }
            for (int i = 0; i < n; i++) {
                if (read(setOf(bits(i)), lights, shutters) != readings[i]) {
                    return null;
                }
            }
            for (int[] l : log) {
                if (read(setOf(l[0]), lights, shutters) != l[1]) {
                    return null;
                }
            }
            int[] row = new int[n + 1];
            row[0] = s;
            System.arraycopy(lights, 0, row, 1, n);
            return row;
        }

        /** By rests of a prime: what is in bounds there is then tried by wholes. */
        private int[] solve(long[][] m) {
            for (int c = 0; c < n; c++) {
                int p = c;
                while (p <= n && m[p][c] == 0) {
                    p++;
                }
                if (p > n) {
                    throw new IllegalStateException("more than one row of lights");
                }
                long[] swap = m[p];
                m[p] = m[c];
                m[c] = swap;
                long inverse = BigInteger.valueOf(m[c][c]).modInverse(BigInteger.valueOf(PRIME)).longValue();
                for (int r = 0; r <= n; r++) {
                    if (r != c && m[r][c] != 0) {
                        long times = m[r][c] * inverse % PRIME;
                        for (int k = c; k <= n; k++) {
                            m[r][k] = Math.floorMod(m[r][k] - times * m[c][k] % PRIME, PRIME);
                        }
                    }
                }
            }
            int[] lights = new int[n];
            for (int c = 0; c < n; c++) {
                long inverse = BigInteger.valueOf(m[c][c]).modInverse(BigInteger.valueOf(PRIME)).longValue();
                long v = m[c][n] * inverse % PRIME;
                if (v > 9999) {
                    return null;
                }
                lights[c] = (int) v;
            }
            return lights;
        }

        private boolean suspectable() {
            return ok(!ready ? 1 : readings == null || lostCount() > 0 ? 5 : 0);
        }

        public int suspects() {
            return suspectable() ? suspectList().size() : -1;
        }

        public int suspect(int i) {
            return suspectable() && ok(i >= 0 && i < suspectList().size() ? 0 : 1) ? suspectList().get(i)[0] : -1;
        }

        public int supposed(int i, int j) {
            return one(j) && suspectable() && ok(i >= 0 && i < suspectList().size() ? 0 : 1)
                    ? suspectList().get(i)[j + 1] : -1;
        }

        private boolean maskThere(int i) {
            return ok(ready && i >= 0 && i < masks.size() ? 0 : 1);
        }

        public int mask(int i) {
            return maskThere(i) ? masks.get(i).stream().mapToInt(j -> 1 << j).sum() : -1;
        }

        /** The fractions by which the masks of a row sum up to a set of colours; null if there are none. */
        private F[] sumsTo(List<Integer> row, Set<Integer> set) {
            int width = row.size();
            F[][] m = new F[n][width + 1];
            for (int j = 0; j < n; j++) {
                for (int b = 0; b < width; b++) {
                    m[j][b] = F.of(masks.get(row.get(b)).contains(j) ? 1 : 0);
                }
                m[j][width] = F.of(set.contains(j) ? 1 : 0);
            }
            int used = 0;
            for (int c = 0; c < width; c++) {
                int p = used;
                while (m[p][c].isZero()) {
                    p++;
                }
                F[] swap = m[p];
                m[p] = m[used];
                m[used] = swap;
                for (int r = 0; r < n; r++) {
                    if (r != used && !m[r][c].isZero()) {
                        F times = m[r][c].by(m[used][c]);
                        for (int k = c; k <= width; k++) {
                            m[r][k] = m[r][k].less(times.times(m[used][k]));
                        }
                    }
                }
                used++;
            }
            for (int r = used; r < n; r++) {
                if (!m[r][width].isZero()) {
                    return null;
                }
            }
            F[] factors = new F[width];
            for (int c = 0; c < width; c++) {
                factors[c] = m[c][width].by(m[c][c]);
            }
            return factors;
        }

        private List<Integer> base(int below) {
            List<Integer> row = new ArrayList<>();
            for (int i = 0; i < below; i++) {
                if (sumsTo(row, masks.get(i)) == null) {
                    row.add(i);
                }
            }
            return row;
        }

        public int rank() {
            return ok(ready ? 0 : 1) ? base(masks.size()).size() : -1;
        }

        private F[] teller(int j) {
            List<Integer> row = base(masks.size());
            F[] found = sumsTo(row, Set.of(j));
            if (found == null) {
                return null;
            }
            F[] all = new F[masks.size()];
            Arrays.fill(all, F.ZERO);
            for (int b = 0; b < found.length; b++) {
                all[row.get(b)] = found[b];
            }
            return all;
        }

        public int told() {
            if (!ok(ready ? 0 : 1)) {
                return -1;
            }
            int all = 0;
            for (int j = 0; j < n; j++) {
                all |= teller(j) != null ? 1 << j : 0;
            }
            return all;
        }

        private F looked(int i) {
            return F.of(read(masks.get(i), light, shutter) - dark);
        }

        public long solved(int j, boolean lower) {
            if (!one(j) || !ok(teller(j) == null ? 5 : 0)) {
                return Long.MIN_VALUE;
            }
            F sum = F.ZERO;
            for (int i = 0; i < masks.size(); i++) {
                sum = sum.plus(teller(j)[i].times(looked(i)));
            }
            return sum.part(lower);
        }

        public long factor(int j, int i, boolean lower) {
            if (!one(j) || !maskThere(i) || !ok(teller(j) == null ? 5 : 0)) {
                return Long.MIN_VALUE;
            }
            return teller(j)[i].part(lower);
        }

        private F shareByOf(int j) {
            F sum = F.ZERO;
            for (F f : teller(j)) {
                sum = sum.plus(f.times(f));
            }
            return sum;
        }

        public long shareBy(int j, boolean lower) {
            return one(j) && ok(teller(j) == null ? 5 : 0) ? shareByOf(j).part(lower) : -1;
        }

        public int fewer() {
            if (!ok(ready ? 0 : 1)) {
                return -1;
            }
            int all = 0;
            for (int j = 0; j < n; j++) {
                all |= teller(j) != null && shareByOf(j).isBelow(shareOf()) ? 1 << j : 0;
            }
            return all;
        }

        public int agree() {
            if (!ok(ready ? 0 : 1)) {
                return -1;
            }
            for (int i = 0; i < masks.size(); i++) {
                List<Integer> row = base(i);
                F[] factors = sumsTo(row, masks.get(i));
                if (factors != null) {
                    F sum = F.ZERO;
                    for (int b = 0; b < row.size(); b++) {
                        sum = sum.plus(factors[b].times(looked(row.get(b))));
                    }
                    if (!sum.less(looked(i)).isZero()) {
                        return 0;
                    }
                }
            }
            return 1;
        }

        private int between(Set<Integer> a, Set<Integer> b) {
            int c = 0;
            for (int j = 0; j < n; j++) {
                c += a.contains(j) != b.contains(j) ? 1 : 0;
            }
            return c;
        }

        private void findTour() {
            if (tourRow != null) {
                return;
            }
            int count = masks.size();
            int[][] far = new int[count + 1][count];
            int[] near = new int[count];
            Arrays.fill(near, 99);
            for (int b = 0; b < count; b++) {
                for (int a = 0; a <= count; a++) {
                    far[a][b] = between(a == count ? Set.of() : masks.get(a), masks.get(b));
                    near[b] = a == b ? near[b] : Math.min(near[b], far[a][b]);
                }
            }
            tourMoves = count == 0 ? 0 : 99999;
            tourRow = new int[count];
            goOn(far, near, new int[count], 0, 0);
        }

        /** All rows in their order; a later one must be shorter to be taken. */
        private void goOn(int[][] far, int[] near, int[] row, int length, int moves) {
            int count = row.length;
            if (length == count) {
                if (moves < tourMoves) {
                    tourMoves = moves;
                    tourRow = row.clone();
                }
                return;
            }
            boolean[] used = new boolean[count];
            int least = moves;
            for (int i = 0; i < length; i++) {
                used[row[i]] = true;
            }
            for (int i = 0; i < count; i++) {
                least += used[i] ? 0 : near[i];
            }
            if (least >= tourMoves) {
                return;
            }
            int last = length == 0 ? count : row[length - 1];
            for (int next = 0; next < count; next++) {
                if (!used[next]) {
                    row[length] = next;
                    goOn(far, near, row, length + 1, moves + far[last][next]);
                }
            }
        }

        public int tour() {
            if (!ok(ready ? 0 : 1)) {
                return -1;
            }
            findTour();
            return tourMoves;
        }

        public int tourAt(int i) {
            if (!maskThere(i)) {
                return -1;
            }
            findTour();
            return tourRow[i];
        }

        public int sign(int k, int row, int column) {
            if (!ok(k < 0 || k > 9 || row < 0 || column < 0 || row >= Math.pow(2, k) || column >= Math.pow(2, k) ? 2 : 0)) {
                return 0;
            }
            if (k == 0) {
                return 1;
            }
            int half = 1 << k - 1;
            int turn = row >= half && column >= half ? -1 : 1;
            return turn * sign(k - 1, row % half, column % half);
        }

        private void act(int... what) {
            acts.push(what);
            if (acts.size() > 10) {
                acts.removeLast();
            }
            end();
        }

        public int shine(int j, int value) {
            if (!one(j) || !ok(value < 0 || value > 9999 ? 2 : 0)) {
                return -1;
            }
            act(0, j, light[j]);
            int before = light[j];
            light[j] = value;
            return before;
        }

        public int stick(int j, int how) {
            if (!one(j) || !ok(how < 0 || how > 2 ? 2 : 0)) {
                return -1;
            }
            act(1, j, shutter[j]);
            int before = shutter[j];
            shutter[j] = how;
            return before;
        }

        public int lose(int i) {
            if (!one(i) || !ok(lost[i] ? 5 : 0)) {
                return -1;
            }
            act(2, i, 0);
            lost[i] = true;
            return lostCount();
        }

        public boolean undo() {
            if (!ok(acts.isEmpty() ? 1 : 0)) {
                return false;
            }
            int[] what = acts.pop();
            if (what[0] == 0) {
                light[what[1]] = what[2];
            } else if (what[0] == 1) {
                shutter[what[1]] = what[2];
            } else {
                lost[what[1]] = false;
            }
            end();
            return true;
        }

        public int stuck(int i) {
            List<Integer> all = new ArrayList<>();
            for (int j = 0; j < n; j++) {
                if (shutter[j] > 0) {
                    all.add(j);
                }
            }
            if (i < 0 || i >= all.size()) {
                throw new NoSuchElementException();
            }
            return all.get(i);
        }

        public int size(int what) {
            if (what < 0 || what > 5) {
                return -1;
            }
            return new int[] {masks.size(), ready ? lostCount() : 0, log.size(), readings == null ? 0 : 1, acts.size(),
                tape.length}[what];
        }
    }

    /** Collects all faults that it can and tells the first of them, instead of stopping at the first one. */
    private static final class Parse {
        int n = -1;
        int kind;
        int dark;
        int top;
        final Map<Integer, Integer> lights = new HashMap<>();
        final Map<Integer, Integer> stuck = new HashMap<>();
        final Map<Integer, Integer> noises = new HashMap<>();
        final Set<Integer> lost = new HashSet<>();
        final List<Set<Integer>> masks = new ArrayList<>();
        private final List<String> tokens = new ArrayList<>();
        private final List<Integer> places = new ArrayList<>();
        private final List<int[]> faults = new ArrayList<>();
        private boolean benchSeen;

        Parse(String text) {
            Matcher m = Pattern.compile("[a-z]+|[0-9]+|[^a-z0-9 ]").matcher(text);
            while (m.find()) {
                String t = m.group();
                boolean good = t.matches("[a-z]{1,7}|[0-9]{1,6}|;");
                tokens.add(good ? t : "?");
                places.add(m.start());
            }
            tokens.add("");
            places.add(text.length());
            int at = 0;
            while (at >= 0) {
                at = line(at);
                if (at >= 0 && tokens.get(at).equals("")) {
                    break;
                }
                if (at >= 0 && !tokens.get(at).equals(";")) {
                    note(1, at);
                    break;
                }
                at = at < 0 ? at : at + 1;
            }
            if (!benchSeen) {
                faults.add(new int[] {text.length(), 5});
            }
            faults.sort(Comparator.<int[]>comparingInt(f -> f[0]).thenComparingInt(f -> f[1]));
        }

        int fault() {
            return faults.isEmpty() ? 0 : faults.get(0)[1];
        }

        int place() {
            return faults.get(0)[0];
        }

        private void note(int fault, int at) {
            faults.add(new int[] {places.get(at), fault});
        }

        private static String formOf(String word) {
            switch (word) {
                case "bench":
                    return "doubled|squares # dark # top #";
                case "light":
                    return "# #";
                case "stuck":
                    return "# open|shut";
                case "noise":
                    return "# plus|less #";
                case "lost":
                case "mask":
                    return "#";
                default:
                    return null;
            }
        }

        /** Where the line ends; -1 if it isn't one. */
        private int line(int start) {
            String word = tokens.get(start);
            String form = formOf(word);
            if (form == null) {
                note(1, start);
                return -1;
            }
            if (word.equals("bench") && benchSeen) {
                note(3, start);
            }
            if (!word.equals("bench") && !benchSeen) {
                note(5, start);
            }
            int room = word.equals("stuck") || word.equals("lost") ? 3 : word.equals("noise") ? 8 : word.equals("mask") ? 12 : 999;
            int there = word.equals("stuck") ? stuck.size() : word.equals("lost") ? lost.size()
                    : word.equals("noise") ? noises.size() : word.equals("mask") ? masks.size() : 0;
            if (there >= room) {
                note(4, start);
            }
            int at = start + 1;
            boolean formGood = true;
            for (String part : form.split(" ")) {
                boolean fits = part.equals("#") ? isWhole(at) : Arrays.asList(part.split("\\|")).contains(tokens.get(at));
                if (!fits) {
                    note(1, at);
                    formGood = false;
                    break;
                }
                at++;
            }
            while (formGood && word.equals("mask") && isWhole(at)) {
                at++;
            }
            meaning(word, start, at);
            return formGood ? at : -1;
        }

        private boolean isWhole(int at) {
            return !tokens.get(at).isEmpty() && Character.isDigit(tokens.get(at).charAt(0));
        }

        private int whole(int at, int stop, int low, int high) {
            if (at >= stop) {
                return -1;
            }
            int v = Integer.parseInt(tokens.get(at));
            if (v < low || v > high) {
                note(2, at);
                return -1;
            }
            return v;
        }

        private int fresh(int at, int stop, Set<Integer> there) {
            int v = n < 0 ? -1 : whole(at, stop, 0, n - 1);
            if (v >= 0 && there.contains(v)) {
                note(3, at);
            }
            return v;
        }

        private void meaning(String word, int start, int stop) {
            int who;
            switch (word) {
                case "bench":
                    if (!benchSeen) {
                        benchMeaning(start, stop);
                    }
                    benchSeen = true;
                    return;
                case "light":
                    who = fresh(start + 1, stop, lights.keySet());
                    lights.put(who, whole(start + 2, stop, 0, 9999));
                    return;
                case "stuck":
                    who = fresh(start + 1, stop, stuck.keySet());
                    stuck.put(who, start + 2 < stop && tokens.get(start + 2).equals("open") ? 1 : 2);
                    return;
                case "noise":
                    who = fresh(start + 1, stop, noises.keySet());
                    int amount = whole(start + 3, stop, 1, 99);
                    noises.put(who, start + 2 < stop && tokens.get(start + 2).equals("less") ? -amount : amount);
                    return;
                case "lost":
                    lost.add(fresh(start + 1, stop, lost));
                    return;
                default:
                    Set<Integer> set = new HashSet<>();
                    for (int at = start + 1; at < stop; at++) {
                        set.add(fresh(at, stop, set));
                    }
                    masks.add(set);
            }
        }

        private void benchMeaning(int start, int stop) {
            if (start + 2 < stop) {
                kind = tokens.get(start + 1).equals("doubled") ? 0 : 1;
                int v = Integer.parseInt(tokens.get(start + 2));
                boolean good = kind == 0 ? v >= 2 && v <= 5 : List.of(3, 7, 11, 19, 23, 31).contains(v);
                if (good) {
                    n = kind == 0 ? (1 << v) - 1 : v;
                } else {
                    note(2, start + 2);
                }
            }
            dark = whole(start + 4, stop, 0, 999);
            top = whole(start + 6, stop, 1, 999999);
        }
    }
}
