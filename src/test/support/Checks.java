import java.util.NoSuchElementException;

/** What the tests by hand share: texts are fed, answers are compared, and the wrong ones are told. */
abstract class Checks {
    static final int LOW = Integer.MIN_VALUE;
    static final int HIGH = Integer.MAX_VALUE;
    static final long LOWEST = Long.MIN_VALUE;
    /** What isStuck answers when nothing is stuck. */
    static final int THROWN = -9;
    /** Plates 0 2, 1 2, 0 1; net readings 14, 24, 30. */
    static final String SMALL = "bench doubled 2 dark 5 top 999;light 0 10;light 1 20;light 2 4";
    static final String BARE = "bench doubled 2 dark 0 top 9";
    static final String[] BENCHES = {"doubled 2", "doubled 3", "doubled 4", "doubled 5",
        "squares 3", "squares 7", "squares 11", "squares 19", "squares 23", "squares 31"};
    static final int[] COLOURS = {3, 7, 15, 31, 3, 7, 11, 19, 23, 31};

    static int wrong = 0;
    static int promise = 0;

    interface Call {
        long on(WeighingPlates x);
    }

    static void end(String good) {
        System.out.println(wrong == 0 ? good : wrong + " answers are not as due");
        if (wrong != 0) {
            System.exit(1);
        }
    }

    static void due(String what, long got, long want) {
        if (got != want) {
            wrong++;
            System.out.println("promise " + promise + ": " + what + " answered " + got + ", due is " + want);
        }
    }

    /** An answer, and the trouble of the call that gave it. */
    static void due(String what, long got, long want, WeighingPlates x, int trouble) {
        due(what, got, want);
        due("trouble after " + what, x.trouble(), trouble);
    }

    /** The call ahead isn't refused, so the trouble is this call's own. */
    static void refused(WeighingPlates x, String what, Call call, long want, int trouble) {
        x.sign(0, 0, 0);
        due(what, call.on(x), want, x, trouble);
        due("where after " + what, x.where(), -1);
    }

    /** The call ahead is refused, so this call must clear the trouble itself. */
    static void taken(WeighingPlates x, String what, Call call, long want) {
        x.sign(-1, 0, 0);
        due(what, call.on(x), want, x, 0);
        due("where after " + what, x.where(), -1);
    }

    static void give(WeighingPlates x, String text) {
        for (int at = 0; at < text.length(); at += 20) {
            int[] five = new int[5];
            for (int i = 0; i < 20; i++) {
                int b = at + i < text.length() ? text.charAt(at + i) & 255 : 32;
                five[i / 4] = five[i / 4] << 8 | b;
            }
            x.feed(five[0], five[1], five[2], five[3], five[4]);
        }
    }

    static int put(WeighingPlates x, String text) {
        give(x, text);
        return x.bench(text.length());
    }

    static WeighingPlates of(String text) {
        WeighingPlates x = new WeighingPlates();
        due("bench of " + text, put(x, text) > 0 ? 1 : 0, 1);
        return x;
    }

    static void good(String text, int colours) {
        WeighingPlates x = new WeighingPlates();
        due("bench of " + text, put(x, text), colours, x, 0);
        due("fault of " + text, x.fault(), 0);
        due("where of " + text, x.where(), -1);
    }

    static void bad(String text, int fault, int place) {
        WeighingPlates x = new WeighingPlates();
        due("bench of " + text, put(x, text), -1, x, 4);
        due("fault of " + text, x.fault(), fault);
        due("place in " + text, x.where(), place);
    }

    /** A text in which a ^ stands ahead of the place of its fault. */
    static void bad(int fault, String marked) {
        int place = marked.indexOf('^');
        bad(marked.substring(0, place) + marked.substring(place + 1), fault, place);
    }

    static int isStuck(WeighingPlates x, int i) {
        try {
            return x.stuck(i);
        } catch (NoSuchElementException e) {
            return THROWN;
        }
    }

    static String blanks(int count) {
        return " ".repeat(count);
    }

    /** Lines of one sort, with the numbers from 0 on: what stands ahead of the number, and behind it. */
    static String lines(int count, String ahead, String behind) {
        StringBuilder text = new StringBuilder();
        for (int i = 0; i < count; i++) {
            text.append(';').append(ahead).append(i).append(behind);
        }
        return text.toString();
    }
}
