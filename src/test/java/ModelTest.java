import java.util.Arrays;
import java.util.Random;

/** Long runs of drawn calls, on PaperHour and on the Model; each answer must be the same. */
public final class ModelTest {
    private static final int RUNS = 400, CALLS = 512;
    private static final int[] EDGES = {Integer.MIN_VALUE, -1000000, -2, -1, 0, 1, 5, 6, 7, 8, 9, 10, 24, 25, 30, 31, 39,
        40, 41, 60, 61, 63, 64, 255, 256, 999, 1000, 999999, 1000000, Integer.MAX_VALUE};

    private final Random random;
    private final PaperHour x = new PaperHour();
    private final Model model = new Model();

    private ModelTest(int seed) {
        random = new Random(seed);
    }

    public static void main(String[] args) {
        Checks c = new Checks();
        for (int seed = 1; seed <= RUNS; seed++) {
            c.part("run " + seed);
            new ModelTest(seed).run(c);
        }
        c.end();
    }

    private void run(Checks c) {
        int calls = 0;
        while (calls < CALLS) {
            if (random.nextInt(40) == 0 || calls < 60 && calls + 60 < CALLS && model.count(1) == 0) {
                calls += feed(c, text());
            }
            call(c);
            calls++;
        }
    }

    private int feed(Checks c, String text) {
        for (int i = 0; i < text.length(); i++) {
            c.due("feed", x.feed(text.charAt(i)), model.feed(text.charAt(i)));
        }
        c.due("town of " + text, x.town(), model.town());
        c.due("fault", x.fault(), model.fault());
        return text.length() + 2;
    }

    private String text() {
        StringBuilder text = new StringBuilder();
        text.append('p').append(upTo(9)).append(',').append(upTo(20)).append(',')
            .append(random.nextBoolean() ? upTo(60) : 4 + upTo(16)).append(';');
        int readers = random.nextInt(9) == 0 ? upTo(7) : 3 + upTo(3);
        int spread = 1 + upTo(8);
        for (int i = 0; i < readers; i++) {
            text.append("fsaoh".charAt(upTo(4))).append(upTo(spread)).append(',').append(upTo(30)).append(',')
                .append(upTo(random.nextBoolean() ? 2 : 9)).append(';');
        }
        for (int spoilt = random.nextInt(8) - 6; spoilt > 0 && text.length() > 1; spoilt--) {
            int at = random.nextInt(text.length());
            switch (upTo(3)) {
                case 0: text.deleteCharAt(at); break;
                case 1: text.insert(at, "0123456789,;pfsaohx ".charAt(upTo(19))); break;
                case 2: text.setCharAt(at, (char) random.nextInt(256)); break;
                default: text.setLength(at); break;
            }
        }
        return text.toString();
    }

    private int upTo(int most) {
        return random.nextInt(most + 1);
    }

    /** Mostly a number from low to high, at times one a little beyond, or an edge of something else. */
    private int number(int low, int high) {
        int r = random.nextInt(40);
        if (r == 0) {
            return EDGES[random.nextInt(EDGES.length)];
        }
        if (r == 1) {
            return random.nextBoolean() ? low - 1 : high + 1;
        }
        return low + random.nextInt(high - low + 1);
    }

    private int reader() {
        return number(0, Math.max(0, model.count(1) - 1));
    }

    private void call(Checks c) {
        int which = random.nextInt(60);
        int[] a = arguments(which);
        c.due("call " + which + " " + Arrays.toString(a), call(which, a, false), call(which, a, true));
        c.due("status", x.status(), model.status());
        for (int what = 0; what < 8; what++) {
            c.due("count " + what, x.count(what), model.count(what));
        }
    }

    private int[] arguments(int which) {
        switch (which) {
            case 0: return new int[] {number(0, 7), number(0, 2), number(-1, 40)};
            case 1: return new int[] {number(0, 3), 2, 12};
            case 2: return new int[] {number(0, 3), number(0, 12), random.nextInt()};
            case 3: case 4: case 5: case 6: case 7: case 8: case 9: case 10:
                return new int[] {number(0, 3), number(0, 12), number(-1, 6)};
            case 11: case 12: return new int[] {number(0, 4), number(0, 9), number(0, 4), number(0, 9), number(0, 6)};
            case 13: return new int[] {number(3, 7)};
            case 14: return new int[] {number(0, 255)};
            case 15: case 16: case 17: case 18: case 19: return new int[] {reader()};
            case 20: return new int[] {number(1, random.nextInt(4) == 0 ? 24 : 3)};
            case 21: case 22: return new int[] {reader(), number(0, 30)};
            case 23: case 24: return new int[] {reader(), number(0, 9)};
            case 25: case 26: case 27: return new int[] {reader(), number(0, 4)};
            case 28: case 29: return new int[] {reader(), number(0, 1)};
            case 30: case 31: case 32: return new int[] {number(-2, 5)};
            case 33: case 34: return new int[] {number(0, (1 << model.count(1)) - 1), number(-1, 5)};
            case 35: return new int[] {number(1, 3), number(-1, 5)};
            case 36: case 37: case 38: case 39: case 40: case 41: return fitsArguments();
            case 42: case 43: case 44: case 45:
                return new int[] {number(0, 3), number(0, 10), number(1, 4), number(0, 10), number(0, 60), number(0, 1)};
            case 46: case 47: return new int[] {number(0, 60), number(1, 999999), number(0, 1)};
            case 48: case 49: return new int[] {number(0, 1)};
            case 50: return new int[] {reader()};
            case 51: case 52: return new int[] {reader(), number(0, 5)};
            case 53: case 54: return new int[] {reader(), number(0, 1)};
            case 55: case 56: return new int[] {number(0, 6)};
            case 57: return new int[] {number(0, 7)};
            default: return new int[0];
        }
    }

    /** Mostly such that something fits: what the row brings as the readers are. */
    private int[] fitsArguments() {
        int row = number(0, 3);
        int i = number(0, 10);
        int n = number(1, 3);
        int what = number(0, 2);
        int reader = reader();
        for (int e = 0; e < 90 && random.nextInt(6) != 0; e++) {
            // of both, as status() tells of the latest
            int fits = model.fits(reader, row, i, n, e, what);
            if (x.fits(reader, row, i, n, e, what) > 0 || fits > 0) {
                return new int[] {reader, row, i, n, e, what};
            }
        }
        return new int[] {reader, row, i, n, number(0, 60), what};
    }

    private int call(int which, int[] a, boolean m) {
        switch (which) {
            case 0: case 1: return m ? model.row(a[0], a[1], a[2]) : x.row(a[0], a[1], a[2]);
            case 2: case 3: case 4: case 5: case 6: case 7: case 8: case 9: case 10:
                return m ? model.set(a[0], a[1], a[2]) : x.set(a[0], a[1], a[2]);
            case 11: case 12:
                return m ? model.copy(a[0], a[1], a[2], a[3], a[4]) : x.copy(a[0], a[1], a[2], a[3], a[4]);
            case 13: return m ? model.drop(a[0]) : x.drop(a[0]);
            case 14: return m ? model.feed(a[0]) : x.feed(a[0]);
            case 15: case 16: case 17: case 18: case 19: return m ? model.give(a[0]) : x.give(a[0]);
            case 20: return m ? model.pause(a[0]) : x.pause(a[0]);
            case 21: case 22: return m ? model.value(a[0], a[1]) : x.value(a[0], a[1]);
            case 23: case 24: return m ? model.move(a[0], a[1]) : x.move(a[0], a[1]);
            case 25: case 26: case 27: return m ? model.reader(a[0], a[1]) : x.reader(a[0], a[1]);
            case 28: case 29: return m ? model.would(a[0], a[1]) : x.would(a[0], a[1]);
            case 30: case 31: case 32: return m ? model.best(a[0]) : x.best(a[0]);
            case 33: case 34: return m ? model.soonest(a[0], a[1]) : x.soonest(a[0], a[1]);
            case 35: return m ? model.copies(a[0], a[1]) : x.copies(a[0], a[1]);
            case 36: case 37: case 38: case 39: case 40: case 41:
                return m ? model.fits(a[0], a[1], a[2], a[3], a[4], a[5]) : x.fits(a[0], a[1], a[2], a[3], a[4], a[5]);
            case 42: case 43: case 44: case 45:
                return m ? model.lost(a[0], a[1], a[2], a[3], a[4], a[5]) : x.lost(a[0], a[1], a[2], a[3], a[4], a[5]);
            case 46: case 47: return m ? model.drawn(a[0], a[1], a[2]) : x.drawn(a[0], a[1], a[2]);
            case 48: return m ? model.image(a[0]) : x.image(a[0]);
            case 49: return m ? model.restore(a[0]) : x.restore(a[0]);
            case 50: return m ? model.kind(a[0]) : x.kind(a[0]);
            case 51: case 52: return m ? model.as(a[0], a[1]) : x.as(a[0], a[1]);
            case 53: case 54: return m ? model.ask(a[0], a[1]) : x.ask(a[0], a[1]);
            case 55: case 56: return m ? model.trace(a[0]) : x.trace(a[0]);
            case 57: return m ? model.count(a[0]) : x.count(a[0]);
            case 58: return m ? model.town() : x.town();
            default: return m ? model.undo() : x.undo();
        }
    }
}
