/** For each promise: ordinary inputs, the edges that the document names, and wrong inputs; worked out by hand. */
public final class PromisesTest {
    private static final int NONE = -1000000, BAD = -1000001, STATE = -1000002, FULL = -1000003;
    private static final int NULL = -1000011, PLACE = -1000012, KIND = -1000013, SIZE = -1000014, STORE = -1000015;
    private static final int LOW = Integer.MIN_VALUE, HIGH = Integer.MAX_VALUE;

    /** Each sort once, and a second fresh one far off: press 4, stamp 3, last 20. */
    private static final String TOWN = "p4,3,20;f5,20,2;s3,18,1;a5,12,1;o9,7,0;h4,9,5;f0,25,3;";

    private static final Checks C = new Checks();

    private PromisesTest() {
    }

    public static void main(String[] args) {
        constants();
        newObject();
        row();
        set();
        copy();
        drop();
        feed();
        town();
        townFaults();
        fault();
        give();
        giveBySorts();
        pause();
        value();
        move();
        undo();
        undoKeeps24();
        reader();
        would();
        best();
        bestOfSeveral();
        soonest();
        soonestNow();
        copies();
        copiesAreNew();
        fits();
        fitsByWhatIsSo();
        lost();
        lostFractions();
        drawn();
        image();
        restore();
        kind();
        as();
        askSize();
        askMark();
        trace();
        count();
        status();
        C.end();
    }

    private static void constants() {
        C.part("constants");
        C.due("NONE", PaperHour.NONE, NONE);
        C.due("BAD", PaperHour.BAD, BAD);
        C.due("STATE", PaperHour.STATE, STATE);
        C.due("FULL", PaperHour.FULL, FULL);
    }

    private static void newObject() {
        C.part("promise 1");
        PaperHour x = new PaperHour();
        for (int what = 0; what <= 7; what++) {
            C.due("count(" + what + ")", x.count(what), 0);
        }
        C.due("status", x.status(), 0);
        C.due("fault", x.fault(), 0);
        C.due("trace", x.trace(0), NONE);
        C.due("undo", x.undo(), STATE);
        C.due("best", x.best(-1), STATE);
        C.due("image", x.image(0), STATE);
        C.due("kind", x.kind(0), BAD);
        for (int row = 0; row < 8; row++) {
            C.due("drop", x.drop(row), NULL);
        }
    }

    private static void row() {
        C.part("promise 2");
        PaperHour x = new PaperHour();
        C.due("of none", x.row(0, 0, 0), 0);
        C.due("of 40", x.row(7, 2, 40), 40);
        C.due("of 41", x.row(0, 0, 41), BAD);
        C.due("row -1", x.row(-1, 0, 1), BAD);
        C.due("row 8", x.row(8, 0, 1), BAD);
        C.due("row 8 of fewer than none", x.row(8, 0, -1), BAD);
        C.due("lane -1", x.row(0, -1, 1), BAD);
        C.due("lane 3", x.row(0, 3, 1), BAD);
        C.due("fewer than none", x.row(7, 0, -1), SIZE);
        C.due("far fewer", x.row(7, 0, LOW), SIZE);
        C.due("far more", x.row(7, 0, HIGH), BAD);
        C.due("what is found leaves the row", x.set(7, 39, 70000), 70000);
        C.due("in its place", x.row(7, 1, 40), 40);
        C.due("of shorts now", x.set(7, 0, 70000), 4464);
        C.due("two items", x.row(6, 2, 2), 2);
        x.set(6, 0, 5);
        C.due("what is set", Checks.itemOf(x, 6, 0), 5);
        C.due("one item, in their place", x.row(6, 2, 1), 1);
        C.due("items are 0 at first", Checks.itemOf(x, 6, 0), 0);
        C.due("the second is gone", x.set(6, 1, 0), PLACE);
    }

    private static void set() {
        C.part("promise 3");
        PaperHour x = new PaperHour();
        x.row(0, 0, 3);
        x.row(1, 1, 3);
        x.row(2, 2, 3);
        C.due("byte 127", x.set(0, 0, 127), 127);
        C.due("byte 128", x.set(0, 2, 128), -128);
        C.due("byte 256", x.set(0, 1, 256), 0);
        C.due("byte -129", x.set(0, 1, -129), 127);
        C.due("short 32767", x.set(1, 0, 32767), 32767);
        C.due("short 32768", x.set(1, 0, 32768), -32768);
        C.due("short 128", x.set(1, 0, 128), 128);
        C.due("int high", x.set(2, 0, HIGH), HIGH);
        C.due("int low", x.set(2, 0, LOW), LOW);
        C.due("row -1", x.set(-1, 0, 0), BAD);
        C.due("row 8", x.set(8, 0, 0), BAD);
        C.due("missing, and no place", x.set(3, -1, 0), NULL);
        C.due("place -1", x.set(0, -1, 0), PLACE);
        C.due("place 3", x.set(0, 3, 0), PLACE);
        C.due("place low", x.set(0, LOW, 0), PLACE);
        C.due("place high", x.set(0, HIGH, 0), PLACE);
    }

    private static void copy() {
        C.part("promise 4");
        PaperHour x = new PaperHour();
        x.row(0, 2, 6);
        x.row(1, 2, 3);
        x.row(2, 1, 6);
        for (int i = 0; i < 6; i++) {
            x.set(0, i, i);
        }
        C.due("to behind itself", x.copy(0, 0, 0, 1, 5), 5);
        dueItems(x, 0, 0, 0, 1, 2, 3, 4);
        C.due("to ahead of itself", x.copy(0, 2, 0, 0, 4), 4);
        dueItems(x, 0, 1, 2, 3, 4, 3, 4);
        C.due("to another", x.copy(0, 1, 1, 1, 2), 2);
        dueItems(x, 1, 0, 2, 3);
        C.due("none at the ends", x.copy(0, 6, 1, 3, 0), 0);
        C.due("row -1", x.copy(-1, 0, 0, 0, 1), BAD);
        C.due("row 8", x.copy(0, 0, 8, 0, 1), BAD);
        C.due("from a missing one", x.copy(5, 0, 0, 0, 1), NULL);
        C.due("to a missing one", x.copy(0, 0, 5, 0, 1), NULL);
        C.due("missing ahead of places", x.copy(0, -1, 5, 0, 1), NULL);
        C.due("of two lanes", x.copy(0, 0, 2, 0, 0), STORE);
        C.due("of two lanes ahead of places", x.copy(0, -1, 2, 0, 9), STORE);
        C.due("i below", x.copy(0, -1, 1, 0, 1), PLACE);
        C.due("j below", x.copy(0, 0, 1, -1, 1), PLACE);
        C.due("n below", x.copy(0, 0, 1, 0, -1), PLACE);
        C.due("n low", x.copy(0, 0, 1, 0, LOW), PLACE);
        C.due("beyond its end", x.copy(1, 1, 0, 0, 3), PLACE);
        C.due("beyond the other's end", x.copy(0, 0, 1, 1, 3), PLACE);
        C.due("so far that sums turn", x.copy(0, 1, 0, 1, HIGH), PLACE);
        C.due("from so far that sums turn", x.copy(0, HIGH, 0, 1, 1), PLACE);
        dueItems(x, 0, 1, 2, 3, 4, 3, 4);
    }

    private static void dueItems(PaperHour x, int row, int... items) {
        for (int i = 0; i < items.length; i++) {
            C.due("item " + i, Checks.itemOf(x, row, i), items[i]);
        }
    }

    private static void drop() {
        C.part("promise 5");
        PaperHour x = new PaperHour();
        x.row(3, 0, 17);
        x.row(4, 0, 0);
        C.due("of 17", x.drop(3), 17);
        C.due("of none", x.drop(4), 0);
        C.due("again", x.drop(3), NULL);
        C.due("row -1", x.drop(-1), BAD);
        C.due("row 8", x.drop(8), BAD);
        C.due("anew", x.row(3, 1, 2), 2);
        C.due("anew dropped", x.drop(3), 2);
    }

    private static void feed() {
        C.part("promise 6");
        PaperHour x = new PaperHour();
        C.due("-1", x.feed(-1), BAD);
        C.due("256", x.feed(256), BAD);
        C.due("0", x.feed(0), 1);
        C.due("255", x.feed(255), 2);
        for (int i = 3; i <= 100; i++) {
            C.due("byte " + i, x.feed(44), i);
        }
        C.due("no room", x.feed(44), FULL);
        C.due("no byte, and no room", x.feed(256), BAD);
        C.due("how many", x.count(7), 100);
        x.town();
        C.due("empty then", x.feed(44), 1);
    }

    private static void town() {
        C.part("promise 7");
        PaperHour x = new PaperHour();
        C.due("fed", Checks.feedAll(x, TOWN), 54);
        C.due("six", x.town(), 6);
        C.due("the tape is empty", x.count(7), 0);
        C.due("at the press", x.count(3), 4);
        C.due("where he lives", x.reader(3, 0), 9);
        C.due("worth", x.reader(5, 1), 25);
        C.due("late", x.reader(4, 2), 5);
        x.give(1);
        x.pause(2);
        x.row(0, 0, 3);
        x.image(0);
        Checks.feedAll(x, "p09,20,60;h9,30,09;");
        C.due("one", x.town(), 1);
        C.due("two figures", x.count(3), 9);
        C.due("hour", x.count(2), 0);
        C.due("nobody has read", x.count(4), 0);
        C.due("nothing is earned", x.count(5), 0);
        C.due("no act", x.undo(), STATE);
        C.due("rows stay", x.count(0), 1);
        C.due("stamp", x.copies(1, -1), 1000 - 20 + 30);
        C.due("images stay", x.restore(0), 1);
        C.due("the image's", x.count(1), 6);
        Checks.feedAll(x, "p0,0,0;");
        C.due("no readers", x.town(), 0);
        C.due("it is a town", x.pause(1), 1);
    }

    private static void townFaults() {
        C.part("promise 7, faults");
        dueFault("", 0, 1);
        dueFault("f", 0, 1);
        dueFault("p", 1, 1);
        dueFault("P1,1,1;", 0, 1);
        dueFault("p,", 1, 1);
        dueFault("p1", 2, 1);
        dueFault("p1;", 2, 1);
        dueFault("p 1", 1, 1);
        dueFault("p10,", 1, 2);
        dueFault("p100,", 1, 1);
        dueFault("p001,", 1, 1);
        dueFault("p1,21,", 3, 2);
        dueFault("p1,1,61;", 5, 2);
        dueFault("p1,1,600;", 5, 1);
        dueFault("p1,1,60,", 7, 1);
        dueFault("p1,1,60", 7, 1);
        dueFault("p1,1,1;p1,1,1;", 7, 1);
        dueFault("p1,1,1;1", 7, 1);
        dueFault("p1,1,1;;", 7, 1);
        dueFault("p1,1,1;f", 8, 1);
        dueFault("p1,1,1;ff", 8, 1);
        dueFault("p1,1,1;f10,1,1;", 8, 2);
        dueFault("p1,1,1;s1,31,1;", 10, 2);
        dueFault("p1,1,1;a1,30,10;", 13, 2);
        dueFault("p1,1,1;o1,30,9;h", 16, 1);
        dueFault("p1,1,1;o1,30,9;x", 15, 1);
        dueFault("p1,1,1;o1,30,9\u00e9", 14, 1);
        dueFault("p1,1,1;o1;", 9, 1);
        dueFault("p1,1,1;o1,1;", 11, 1);
        dueFault("p10,99,99;", 1, 2);
        String full = "p1,1,1;f1,1,1;f1,1,1;f1,1,1;f1,1,1;f1,1,1;f1,1,1;";
        dueFault(full + "f1,1,1;", 49, 3);
        dueFault(full + "h", 49, 3);
        dueFault(full + "x", 49, 1);
        dueFault(full + "1", 49, 1);
        C.due("six are none too many", Checks.townOf(full).count(1), 6);
        // what an earlier, longer text left behind the end is not read
        PaperHour again = Checks.townOf(full);
        int[][] shorter = {{1, 1}, {2, 2}, {3, 3}, {8, 8}, {9, 9}};
        for (int[] lengthAndPlace : shorter) {
            Checks.feedAll(again, full.substring(0, lengthAndPlace[0]));
            C.due("shorter", again.town(), -1000100 - lengthAndPlace[1]);
        }
        Checks.feedAll(again, full.substring(0, 14));
        C.due("shorter, whole", again.town(), 1);
        // all stays but the tape
        PaperHour x = Checks.townOf(TOWN);
        x.give(1);
        Checks.feedAll(x, full + "f");
        C.due("too many", x.town(), -1000149);
        C.due("the town stays", x.reader(0, 1), 20);
        C.due("the copy stays", x.count(2), 2);
        C.due("acts stay", x.undo(), 0);
        C.due("the tape is empty", x.count(7), 0);
    }

    private static void dueFault(String text, int place, int number) {
        PaperHour x = new PaperHour();
        Checks.feedAll(x, text);
        C.due("town of " + text, x.town(), -1000100 - place);
        C.due("fault of " + text, x.fault(), number);
        C.due("tape of " + text, x.count(7), 0);
    }

    private static void fault() {
        C.part("promise 8");
        PaperHour x = new PaperHour();
        C.due("before one", x.fault(), 0);
        Checks.feedAll(x, "p99,");
        x.town();
        C.due("number", x.fault(), 2);
        Checks.feedAll(x, "p0,0,0;");
        x.town();
        C.due("the latest, whatever was read since", x.fault(), 2);
        x.town();
        C.due("the end", x.fault(), 1);
    }

    private static void give() {
        C.part("promise 9");
        PaperHour x = Checks.townOf(TOWN);
        C.due("-1", x.give(-1), BAD);
        C.due("6", x.give(6), BAD);
        C.due("fresh", x.give(0), 18);
        dueStands(x, 5, 2, 1, 18);
        C.due("again", x.give(0), STATE);
        C.due("old", x.give(3), 7);
        dueStands(x, 9, 7, 9, 25);
        C.due("hires", x.give(4), 9);
        dueStands(x, 4, 14, 25, 34);
        C.due("aloud", x.give(2), 1);
        dueStands(x, 5, 16, 29, 35);
        C.due("too far", x.give(5), STATE);
        dueStands(x, 5, 16, 29, 35);
        PaperHour last = Checks.townOf("p0,0,5;o5,1,0;o6,2,0;");
        C.due("behind last", last.give(1), STATE);
        C.due("at last", last.give(0), 1);
        dueStands(last, 5, 6, 1, 1);
    }

    private static void dueStands(PaperHour x, int at, int hour, int read, int earned) {
        C.due("at", x.count(3), at);
        C.due("hour", x.count(2), hour);
        C.due("read", x.count(4), read);
        C.due("earned", x.count(5), earned);
    }

    private static void giveBySorts() {
        C.part("section 2");
        String law = "p2,0,60;";
        C.due("fresh, stale", Checks.townOf(law + "f6,10,3;").give(0), 0);
        C.due("fresh, not quite", Checks.townOf(law + "f6,13,3;").give(0), 1);
        C.due("spy, first", Checks.townOf(law + "s6,13,3;").give(0), 1);
        C.due("spy, stale", Checks.townOf(law + "s6,11,3;").give(0), 0);
        PaperHour x = Checks.townOf(law + "s2,30,1;o2,0,0;s2,30,1;");
        C.due("old", x.give(1), 0);
        C.due("spy, second", x.give(0), 0);
        C.due("spies read, too", x.count(4), 3);
        PaperHour y = Checks.townOf(law + "a3,9,9;o3,1,0;s3,1,0;h4,1,9;");
        C.due("aloud", y.give(0), 2);
        PaperHour z = Checks.townOf(law + "o3,1,9;a3,30,1;s3,1,0;h3,1,9;");
        C.due("old, late", z.give(0), 1);
        C.due("aloud, to such as have read, too", z.give(1), 28 + 3);
        C.due("hires, late", z.give(3), 1);
        C.due("an hour more", z.count(2), 5);
    }

    private static void pause() {
        C.part("promise 10");
        PaperHour none = new PaperHour();
        C.due("no town ahead of bad", none.pause(0), STATE);
        PaperHour x = Checks.townOf(TOWN);
        C.due("0", x.pause(0), BAD);
        C.due("25", x.pause(25), BAD);
        C.due("high", x.pause(HIGH), BAD);
        C.due("low", x.pause(LOW), BAD);
        C.due("1", x.pause(1), 1);
        for (int k = 1; k <= 41; k++) {
            C.due("24 each", x.pause(24), 1 + 24 * k);
        }
        C.due("above 999", x.pause(15), FULL);
        C.due("bad ahead of full", x.pause(25), BAD);
        C.due("999", x.pause(14), 999);
        C.due("full", x.pause(1), FULL);
        C.due("hour", x.count(2), 999);
    }

    private static void value() {
        C.part("promise 11");
        PaperHour x = Checks.townOf(TOWN);
        C.due("-1", x.value(0, -1), BAD);
        C.due("31", x.value(0, 31), BAD);
        C.due("reader 6", x.value(6, 1), BAD);
        C.due("reader -1", x.value(-1, 1), BAD);
        C.due("30", x.value(0, 30), 20);
        C.due("0", x.value(0, 0), 30);
        C.due("is", x.reader(0, 1), 0);
        C.due("others stay", x.reader(1, 1), 18);
        C.due("acts", x.count(6), 2);
    }

    private static void move() {
        C.part("promise 12");
        PaperHour x = Checks.townOf(TOWN);
        C.due("-1", x.move(0, -1), BAD);
        C.due("10", x.move(0, 10), BAD);
        C.due("reader 6", x.move(6, 1), BAD);
        C.due("reader -1", x.move(-1, 1), BAD);
        C.due("9", x.move(0, 9), 5);
        C.due("0", x.move(0, 0), 9);
        C.due("is", x.reader(0, 0), 0);
        C.due("the copy stays", x.count(3), 4);
        x.give(1);
        x.move(1, 7);
        C.due("it stays where he was", x.count(3), 3);
    }

    private static void undo() {
        C.part("promise 13");
        PaperHour x = Checks.townOf(TOWN);
        C.due("none", x.undo(), STATE);
        x.give(0);
        x.pause(3);
        x.value(0, 7);
        x.move(0, 1);
        x.give(4);
        x.value(4, 9);
        C.due("count", x.count(6), 6);
        C.due("by which nothing became another", x.undo(), 5);
        dueStands(x, 4, 8, 17, 27);
        C.due("given", x.undo(), 4);
        dueStands(x, 5, 5, 1, 18);
        C.due("moved", x.undo(), 3);
        C.due("place", x.reader(0, 0), 5);
        C.due("worth yet", x.reader(0, 1), 7);
        C.due("valued", x.undo(), 2);
        C.due("worth", x.reader(0, 1), 20);
        C.due("waited", x.undo(), 1);
        dueStands(x, 5, 2, 1, 18);
        C.due("given first", x.undo(), 0);
        dueStands(x, 4, 0, 0, 0);
        C.due("none is left", x.undo(), STATE);
    }

    private static void undoKeeps24() {
        C.part("promise 13, 24 acts");
        PaperHour x = Checks.townOf(TOWN);
        for (int k = 1; k <= 30; k++) {
            x.value(k % 6, k);
            C.due("kept", x.count(6), Math.min(k, 24));
        }
        C.due("refused acts are none", x.value(0, 31), BAD);
        C.due("kept", x.count(6), 24);
        for (int k = 23; k >= 0; k--) {
            C.due("undone", x.undo(), k);
        }
        C.due("no more", x.undo(), STATE);
        for (int k = 1; k <= 6; k++) {
            C.due("the first six stay", x.reader(k % 6, 1), k);
        }
    }

    private static void reader() {
        C.part("promise 14");
        PaperHour x = Checks.townOf(TOWN);
        C.due("place", x.reader(1, 0), 3);
        C.due("worth", x.reader(1, 1), 18);
        C.due("late", x.reader(1, 2), 1);
        C.due("read", x.reader(1, 3), 0);
        C.due("can", x.reader(1, 4), 1);
        x.give(1);
        C.due("has read", x.reader(1, 3), 1);
        C.due("can no more", x.reader(1, 4), 0);
        x.pause(17);
        C.due("comes at 20", x.reader(4, 4), 1);
        C.due("comes at 21", x.reader(0, 4), 0);
        C.due("has not read", x.reader(0, 3), 0);
        C.due("what -1", x.reader(0, -1), BAD);
        C.due("what 5", x.reader(0, 5), BAD);
        C.due("reader 6", x.reader(6, 0), BAD);
        C.due("reader -1", x.reader(-1, 0), BAD);
    }

    private static void would() {
        C.part("promise 15");
        PaperHour x = Checks.townOf(TOWN);
        C.due("comes", x.would(3, 0), 5);
        C.due("brings", x.would(5, 1), 13);
        C.due("what -1", x.would(0, -1), BAD);
        C.due("what 2", x.would(0, 2), BAD);
        C.due("reader 6", x.would(6, 0), BAD);
        C.due("reader -1", x.would(-1, 0), BAD);
        x.give(3);
        C.due("spy now", x.would(1, 1), 0);
        C.due("comes now", x.would(1, 0), 12);
        C.due("has read: comes", x.would(3, 0), NONE);
        C.due("has read: brings", x.would(3, 1), NONE);
        x.pause(14);
        C.due("comes too late", x.would(2, 0), NONE);
        C.due("nothing changes", x.count(6), 2);
    }

    private static void best() {
        C.part("promise 16");
        PaperHour x = new PaperHour();
        C.due("no town ahead of bad", x.best(9), STATE);
        x = Checks.townOf(TOWN);
        C.due("k -3", x.best(-3), BAD);
        C.due("k 6", x.best(6), BAD);
        C.due("how much", x.best(-1), 53);
        C.due("how many", x.best(-2), 5);
        int[] row = {1, 0, 2, 3, 4, NONE};
        for (int k = 0; k < 6; k++) {
            C.due("best " + k, x.best(k), row[k]);
        }
        dueStands(x, 4, 0, 0, 0);
        x.give(1);
        C.due("more", x.best(-1), 53 - 17);
        C.due("from now on", x.best(0), 0);
    }

    private static void bestOfSeveral() {
        C.part("promise 16, of several");
        PaperHour x = Checks.townOf("p0,0,60;o0,0,0;f0,0,0;");
        C.due("nothing", x.best(-1), 0);
        C.due("the shortest is none", x.best(-2), 0);
        C.due("of none", x.best(0), NONE);
        PaperHour y = Checks.townOf("p0,0,60;o0,0,0;o0,5,0;o0,5,0;");
        C.due("ten", y.best(-1), 10);
        C.due("the shortest", y.best(-2), 2);
        C.due("the first", y.best(0), 1);
        C.due("the second", y.best(1), 2);
        PaperHour z = Checks.townOf("p0,0,0;o0,5,0;o0,5,0;");
        C.due("one at last", z.best(-2), 1);
        C.due("the first of two", z.best(0), 0);
        z.give(1);
        C.due("too late for him", z.best(-2), 0);
        PaperHour none = Checks.townOf("p0,0,60;");
        C.due("nobody", none.best(-1), 0);
        C.due("nobody at all", none.best(5), NONE);
    }

    private static void soonest() {
        C.part("promise 17");
        PaperHour x = new PaperHour();
        C.due("no town ahead of bad", x.soonest(-1, 9), STATE);
        x = Checks.townOf(TOWN);
        C.due("k -2", x.soonest(1, -2), BAD);
        C.due("k 6", x.soonest(1, 6), BAD);
        C.due("-1", x.soonest(-1, -1), BAD);
        C.due("64", x.soonest(64, -1), BAD);
        C.due("one", x.soonest(1, -1), 2);
        C.due("which", x.soonest(1, 0), 0);
        C.due("no second", x.soonest(1, 1), NONE);
        C.due("one who hires", x.soonest(16, -1), 2);
        C.due("two", x.soonest(9, -1), 7);
        C.due("all", x.soonest(63, -1), 20);
        int[] row = {1, 5, 4, 0, 2, 3};
        for (int k = 0; k < 6; k++) {
            C.due("soonest " + k, x.soonest(63, k), row[k]);
        }
        dueStands(x, 4, 0, 0, 0);
        PaperHour y = Checks.townOf("p5,0,60;o3,0,0;o7,0,0;");
        C.due("of two as soon", y.soonest(3, -1), 2 + 1 + 4 + 1);
        C.due("the first", y.soonest(3, 0), 0);
        C.due("there is no third", y.soonest(4, -1), BAD);
    }

    private static void soonestNow() {
        C.part("promise 17, now");
        PaperHour x = Checks.townOf(TOWN);
        x.pause(5);
        C.due("nobody is told", x.soonest(0, -1), 5);
        C.due("nobody's first", x.soonest(0, 0), NONE);
        x.give(4);
        C.due("he has read", x.soonest(16, -1), 7);
        C.due("of two one has read", x.soonest(17, -1), 9);
        C.due("the other", x.soonest(17, 0), 0);
        C.due("no more", x.soonest(17, 1), NONE);
        x.pause(14);
        C.due("none in time", x.soonest(17, -1), NONE);
        C.due("none in time: first", x.soonest(17, 0), NONE);
        C.due("now, behind last", x.soonest(16, -1), 21);
    }

    private static void copies() {
        C.part("promise 18");
        PaperHour x = new PaperHour();
        C.due("no town ahead of bad", x.copies(0, 9), STATE);
        x = Checks.townOf(TOWN);
        C.due("m 0", x.copies(0, -1), BAD);
        C.due("m 4", x.copies(4, -1), BAD);
        C.due("k -2", x.copies(1, -2), BAD);
        C.due("k 6", x.copies(1, 6), BAD);
        int[][] which = {{1050, 0, 0, 0, 0, 0, 3}, {1066, 0, 1, 0, 0, 0, 1}, {1066, 0, 1, 0, 0, 0, 2}};
        for (int m = 1; m <= 3; m++) {
            for (int k = -1; k < 6; k++) {
                C.due("copies of " + m, x.copies(m, k), which[m - 1][k + 1]);
            }
        }
        PaperHour none = Checks.townOf("p0,20,9;");
        C.due("each costs", none.copies(3, -1), 940);
        C.due("no such reader", none.copies(3, 0), NONE);
        PaperHour two = Checks.townOf("p0,1,9;s0,5,0;s0,5,0;");
        C.due("one for the two", two.copies(1, -1), 1000 + 5 - 1);
        C.due("which first", two.copies(1, 0), 0);
        C.due("with nothing from him, yet", two.copies(1, 1), 0);
        C.due("one each", two.copies(2, -1), 1000 + 10 - 2);
        C.due("the other", two.copies(2, 1), 1);
        C.due("there is no third", two.copies(2, 2), NONE);
        C.due("bad ahead of none", two.copies(2, 6), BAD);
        PaperHour one = Checks.townOf("p0,1,9;o0,5,0;");
        C.due("a copy that nobody has", one.copies(2, -1), 1000 + 5 - 2);
        C.due("the first has it", one.copies(3, 0), 0);
        PaperHour far = Checks.townOf("p0,0,4;o0,0,0;o5,9,0;");
        C.due("nothing is earned", far.copies(3, -1), 1000);
        C.due("he can have it", far.copies(3, 0), 0);
        C.due("he cannot", far.copies(3, 1), 3);
    }

    private static void copiesAreNew() {
        C.part("promise 18, new ones");
        PaperHour x = Checks.townOf("p5,2,3;o8,9,0;o2,4,0;s5,6,1;");
        x.give(0);
        x.pause(20);
        C.due("one to either side, one to the spy", x.copies(3, -1), 1000 + 9 + 4 + 6 - 6);
        C.due("first", x.copies(3, 0), 0);
        C.due("second", x.copies(3, 1), 1);
        C.due("third", x.copies(3, 2), 2);
        C.due("but one copy", x.copies(1, -1), 1000 + 9 - 2);
        C.due("none for him", x.copies(1, 1), 3);
        C.due("none for the spy", x.copies(1, 2), 3);
        x.value(1, 30);
        C.due("by what it is worth now", x.copies(1, -1), 1000 + 30 - 2);
        x.move(1, 9);
        C.due("where he is now", x.copies(1, -1), 1000 + 9 - 2);
        C.due("and not to him", x.copies(1, 1), 3);
    }

    private static void fits() {
        C.part("promise 19");
        PaperHour x = Checks.townOf(TOWN);
        x.row(0, 2, 6);
        int[] readers = {1, 0, 2, 4, 3, 5};
        for (int i = 0; i < 6; i++) {
            x.set(0, i, readers[i]);
        }
        C.due("sorts", x.fits(1, 0, 0, 1, 17, 0), 2 + 4 + 8);
        C.due("stale", x.fits(1, 0, 0, 1, 17, 1), 2);
        C.due("homes", x.fits(1, 0, 0, 1, 17, 2), 8 + 32);
        C.due("reader 6", x.fits(6, 0, 0, 1, 17, 0), BAD);
        C.due("reader -1", x.fits(-1, 0, 0, 1, 17, 0), BAD);
        C.due("row 8", x.fits(1, 8, 0, 1, 17, 0), BAD);
        C.due("row -1", x.fits(1, -1, 0, 1, 17, 0), BAD);
        C.due("n 0", x.fits(1, 0, 0, 0, 17, 0), BAD);
        C.due("n 7", x.fits(1, 0, 0, 7, 17, 0), BAD);
        C.due("e -1", x.fits(1, 0, 0, 1, -1, 0), BAD);
        C.due("e 1000", x.fits(1, 0, 0, 1, 1000, 0), BAD);
        C.due("e 999", x.fits(1, 0, 0, 1, 999, 0), 0);
        C.due("what -1", x.fits(1, 0, 0, 1, 17, -1), BAD);
        C.due("what 3", x.fits(1, 0, 0, 1, 17, 3), BAD);
        C.due("missing", x.fits(1, 1, -1, 1, 17, 0), NULL);
        C.due("i -1", x.fits(1, 0, -1, 1, 17, 0), PLACE);
        C.due("beyond its end", x.fits(1, 0, 1, 6, 17, 0), PLACE);
        C.due("far beyond", x.fits(1, 0, HIGH, 6, 17, 0), PLACE);
        x.set(0, 5, 6);
        C.due("no reader", x.fits(1, 0, 5, 1, 0, 0), 0);
        x.set(0, 5, -1);
        C.due("no reader below", x.fits(1, 0, 5, 1, 0, 0), 0);
        x.set(0, 5, 3);
        C.due("one twice", x.fits(3, 0, 4, 2, 7, 0), 0);
        C.due("no town", new PaperHour().fits(0, 0, 0, 1, 0, 0), BAD);
        dueStands(x, 4, 0, 0, 0);
        C.due("he stays", x.kind(1), 2);
    }

    private static void fitsByWhatIsSo() {
        C.part("promise 19, what is so");
        PaperHour x = Checks.townOf("p0,0,20;a2,10,1;f3,20,0;o9,3,0;");
        x.row(0, 0, 2);
        x.set(0, 0, 0);
        x.set(0, 1, 1);
        C.due("one who is not in the row: where he is heard", x.fits(2, 0, 0, 1, 9, 2), 1 << 2);
        C.due("one who is not in the row: where he is not", x.fits(2, 0, 0, 1, 8, 2), 1023 - (1 << 2));
        C.due("one who is not in the row: any late", x.fits(2, 0, 0, 1, 8, 1), 1023);
        C.due("one who is not in the row: any sort", x.fits(2, 0, 0, 2, 28, 0), 2 + 4 + 8 + 16 + 32);
        C.due("old or hires", x.fits(0, 0, 0, 1, 10, 0), 16 + 32);
        C.due("exactly so much", x.fits(0, 0, 0, 1, 7, 0), 0);
        C.due("a spy behind another", x.fits(1, 0, 0, 2, 8, 0), 4);
        C.due("none by stale", x.fits(0, 0, 0, 1, 0, 1), 1023 - 31);
        C.due("never late", x.fits(0, 0, 0, 1, 10, 1), 1);
        x.give(1);
        C.due("from now on", x.fits(0, 0, 0, 1, 5, 0), 2 + 8);
        C.due("he has read", x.fits(0, 0, 1, 1, 20, 0), 0);
        PaperHour hirer = Checks.townOf("p0,0,2;o1,1,0;o1,1,0;");
        hirer.row(0, 0, 2);
        hirer.set(0, 1, 1);
        C.due("one who hires keeps it too long", hirer.fits(0, 0, 0, 2, 2, 0), 2 + 4 + 16);
        C.due("where it can come to both", hirer.fits(0, 0, 0, 2, 2, 2), 3);
    }

    private static void lost() {
        C.part("promise 20");
        PaperHour x = new PaperHour();
        C.due("no town ahead of bad", x.lost(9, 0, 0, 99, -1, 9), STATE);
        x = Checks.townOf(TOWN);
        x.row(0, 1, 4);
        int[] readers = {1, 0, 2, 9};
        for (int i = 0; i < 4; i++) {
            x.set(0, i, readers[i]);
        }
        C.due("row 8", x.lost(8, 0, 1, 3, 17, 0), BAD);
        C.due("row -1", x.lost(-1, 0, 1, 3, 17, 0), BAD);
        C.due("n 0", x.lost(0, 0, 0, 3, 17, 0), BAD);
        C.due("n 7", x.lost(0, 0, 7, 3, 17, 0), BAD);
        C.due("c -1", x.lost(0, 0, 1, -1, 17, 0), BAD);
        C.due("c 11", x.lost(0, 0, 1, 11, 17, 0), BAD);
        C.due("e -1", x.lost(0, 0, 1, 3, -1, 0), BAD);
        C.due("e 1000", x.lost(0, 0, 1, 3, 1000, 0), BAD);
        C.due("what -1", x.lost(0, 0, 1, 3, 17, -1), BAD);
        C.due("what 2", x.lost(0, 0, 1, 3, 17, 2), BAD);
        C.due("missing", x.lost(1, -1, 1, 3, 17, 0), NULL);
        C.due("i -1", x.lost(0, -1, 1, 3, 17, 0), PLACE);
        C.due("beyond its end", x.lost(0, 1, 4, 3, 17, 0), PLACE);
        C.due("far beyond", x.lost(0, HIGH, 4, 3, 17, 0), PLACE);
        dueStands(x, 4, 0, 0, 0);
    }

    private static void lostFractions() {
        C.part("promise 20, fractions");
        PaperHour x = Checks.townOf("p0,0,60;o0,5,0;o0,5,0;o0,0,0;o0,7,0;o0,1,0;o0,2,0;");
        x.row(0, 0, 7);
        for (int i = 0; i < 6; i++) {
            x.set(0, i, i);
        }
        dueLost(x, 6, 3, 0, 1, 1);
        dueLost(x, 6, 10, 0, 1, 1);
        dueLost(x, 6, 3, 5, 7, 10);
        dueLost(x, 6, 3, 6, 49, 100);
        dueLost(x, 6, 3, 10, 49, 100);
        dueLost(x, 6, 3, 11, 2401, 10000);
        dueLost(x, 6, 2, 17, 256, 625);
        dueLost(x, 6, 5, 18, 1, 32);
        dueLost(x, 6, 5, 20, 1, 64);
        dueLost(x, 6, 9, 20, 1, 1000000);
        dueLost(x, 6, 1, 20, 531441, 1000000);
        dueLost(x, 6, 5, 21, 0, 1);
        dueLost(x, 6, 0, 20, 1, 1);
        dueLost(x, 6, 0, 21, 0, 1);
        dueLost(x, 6, 10, 1, 0, 1);
        dueLost(x, 2, 4, 6, 9, 25);
        C.due("from i on", x.lost(0, 3, 1, 3, 7, 0), 7);
        x.set(0, 6, 9);
        C.due("no reader behind", x.lost(0, 4, 3, 0, 1, 0), 0);
        C.due("no reader behind, below", x.lost(0, 4, 3, 0, 0, 1), 1);
        C.due("no reader behind, of nothing", x.lost(0, 4, 3, 0, 0, 0), 0);
        x.set(0, 6, 4);
        C.due("one twice", x.lost(0, 4, 3, 0, 0, 0), 0);
        x.give(3);
        C.due("one has read", x.lost(0, 0, 4, 5, 5, 0), 0);
        C.due("more, from now on", x.lost(0, 0, 3, 5, 5, 1), 2);
    }

    private static void dueLost(PaperHour x, int n, int c, int e, int above, int below) {
        C.due("above, " + n + " " + c + " " + e, x.lost(0, 0, n, c, e, 0), above);
        C.due("below, " + n + " " + c + " " + e, x.lost(0, 0, n, c, e, 1), below);
    }

    private static void drawn() {
        C.part("promise 21");
        PaperHour x = new PaperHour();
        C.due("no town ahead of bad", x.drawn(-1, 0, 9), STATE);
        x = Checks.townOf(TOWN);
        C.due("n -1", x.drawn(-1, 1, 0), BAD);
        C.due("n 61", x.drawn(61, 1, 0), BAD);
        C.due("seed 0", x.drawn(1, 0, 0), BAD);
        C.due("seed 1000000", x.drawn(1, 1000000, 0), BAD);
        C.due("seed 999999", x.drawn(0, 999999, 0), 0);
        C.due("what -1", x.drawn(1, 1, -1), BAD);
        C.due("what 2", x.drawn(1, 1, 2), BAD);
        // 16807 is 1 more than 6 times 2801; then 282475249 by 6 leaves 1 again: he waits; 1622650073 leaves 5
        C.due("one day", x.drawn(1, 1, 1), 2);
        C.due("one day's", x.drawn(1, 1, 0), 17);
        C.due("two days", x.drawn(2, 1, 1), 2);
        C.due("three days", x.drawn(3, 1, 1), 2 + 32);
        C.due("three days'", x.drawn(3, 1, 0), 17 + 25 - 3 * 6);
        C.due("twenty", x.drawn(20, 7, 0), 36);
        C.due("sixty", x.drawn(60, 9, 0), 10);
        C.due("sixty: who", x.drawn(60, 9, 1), 44);
        dueStands(x, 4, 0, 0, 0);
        x.give(4);
        C.due("all in all", x.drawn(0, 1, 0), 9);
        C.due("who had read", x.drawn(0, 1, 1), 16);
        C.due("all in all, a day", x.drawn(1, 1, 0), 9);
        C.due("a day: who", x.drawn(1, 1, 1), 18);
        PaperHour none = Checks.townOf("p0,0,0;");
        C.due("none there", none.drawn(60, 1, 0), 0);
        C.due("none there: who", none.drawn(60, 1, 1), 0);
    }

    private static void image() {
        C.part("promise 22");
        PaperHour x = new PaperHour();
        C.due("bad ahead of no town", x.image(2), BAD);
        C.due("no town", x.image(1), STATE);
        x = Checks.townOf(TOWN);
        C.due("-1", x.image(-1), BAD);
        C.due("2", x.image(2), BAD);
        x.give(0);
        C.due("0", x.image(0), 1);
        C.due("acts stay", x.count(6), 1);
        x.give(4);
        C.due("1", x.image(1), 1);
        x.restore(0);
        dueStands(x, 5, 2, 1, 18);
        x.restore(1);
        dueStands(x, 4, 5, 17, 27);
        C.due("in place of what was kept", x.image(0), 1);
        x.pause(1);
        x.restore(0);
        dueStands(x, 4, 5, 17, 27);
    }

    private static void restore() {
        C.part("promise 23");
        PaperHour x = new PaperHour();
        C.due("bad ahead of none kept", x.restore(2), BAD);
        C.due("-1", x.restore(-1), BAD);
        C.due("none kept", x.restore(0), STATE);
        x = Checks.townOf(TOWN);
        x.value(1, 4);
        x.move(1, 8);
        x.image(0);
        C.due("none kept there", x.restore(1), STATE);
        x.value(1, 5);
        x.move(1, 0);
        x.give(1);
        C.due("as kept", x.restore(0), 1);
        C.due("worth", x.reader(1, 1), 4);
        C.due("place", x.reader(1, 0), 8);
        C.due("read", x.reader(1, 3), 0);
        C.due("no act", x.undo(), STATE);
        C.due("no act counts", x.count(6), 0);
        Checks.feedAll(x, "p0,7,1;a0,1,1;");
        x.town();
        C.due("another town is gone", x.restore(0), 1);
        C.due("readers", x.count(1), 6);
        C.due("stamp, last", x.copies(1, -1), 1000 - 3 + x.best(-1));
        x.value(1, 9);
        C.due("an image does not change with the town", x.restore(0), 1);
        C.due("worth again", x.reader(1, 1), 4);
    }

    private static void kind() {
        C.part("promise 24");
        PaperHour x = Checks.townOf(TOWN);
        int[] kinds = {1, 2, 3, 4, 5, 1};
        for (int reader = 0; reader < 6; reader++) {
            C.due("kind", x.kind(reader), kinds[reader]);
        }
        C.due("-1", x.kind(-1), BAD);
        C.due("6", x.kind(6), BAD);
    }

    private static void as() {
        C.part("promise 25");
        PaperHour x = Checks.townOf(TOWN);
        String[] is = {"110000", "111000", "110100", "100010", "100011", "110000"};
        for (int reader = 0; reader < 6; reader++) {
            for (int kind = 0; kind < 6; kind++) {
                C.due("as " + kind, x.as(reader, kind), is[reader].charAt(kind) == '1' ? reader : KIND);
            }
        }
        C.due("kind -1", x.as(0, -1), BAD);
        C.due("kind 6", x.as(0, 6), BAD);
        C.due("reader -1", x.as(-1, 0), BAD);
        C.due("reader 6", x.as(6, 0), BAD);
        C.due("his kind stays", x.kind(1), 2);
    }

    private static void askSize() {
        C.part("promise 26, size");
        PaperHour x = Checks.townOf(TOWN);
        dueAsk(x, 0, 0, 20 + 5, 11, 10, 21, 20);
        dueAsk(x, 1, 0, -(18 + 2 * 4), 12, 11, 10, 24, 21, 20);
        dueAsk(x, 2, 0, 12 + 7 - 1000, 11, 10, 22, 21, 20);
        dueAsk(x, 3, 0, 7 - 100, 13, 10);
        dueAsk(x, 4, 0, 2 * (9 - 100), 14, 13, 10);
        dueAsk(x, 5, 0, 25 + 5, 11, 10, 21, 20);
        x.value(0, 3);
        x.move(0, 9);
        dueAsk(x, 0, 0, 3 + 9, 11, 10, 21, 20);
    }

    private static void askMark() {
        C.part("promise 26, mark");
        PaperHour x = Checks.townOf(TOWN);
        dueAsk(x, 0, 1, 5, 21, 20);
        dueAsk(x, 1, 1, 2 * 4, 24, 21, 20);
        dueAsk(x, 2, 1, 7 - 1000, 22, 21, 20);
        dueAsk(x, 3, 1, 3 - (7 - 100), 23, 20, 13, 10);
        dueAsk(x, 4, 1, 4 - 2 * (9 - 100), 23, 20, 14, 13, 10);
        dueAsk(x, 5, 1, 5, 21, 20);
        C.due("what -1", x.ask(0, -1), BAD);
        C.due("what 2", x.ask(0, 2), BAD);
        C.due("reader -1", x.ask(-1, 0), BAD);
        C.due("reader 6", x.ask(6, 0), BAD);
        C.due("the trace stays", x.trace(0), 21);
    }

    private static void dueAsk(PaperHour x, int reader, int what, int answer, int... trace) {
        C.due("ask of " + reader, x.ask(reader, what), answer);
        for (int i = 0; i < trace.length; i++) {
            C.due("trace of " + reader, x.trace(i), trace[i]);
        }
        C.due("trace ends", x.trace(trace.length), NONE);
    }

    private static void trace() {
        C.part("promise 27");
        PaperHour x = Checks.townOf(TOWN);
        C.due("before an ask", x.trace(0), NONE);
        x.ask(1, 0);
        C.due("first", x.trace(0), 12);
        C.due("last", x.trace(5), 20);
        C.due("behind", x.trace(6), NONE);
        C.due("-1", x.trace(-1), NONE);
        C.due("15", x.trace(15), NONE);
        C.due("16", x.trace(16), NONE);
        C.due("high", x.trace(HIGH), NONE);
        C.due("low", x.trace(LOW), NONE);
        x.ask(0, 1);
        C.due("empty ahead of the next", x.trace(2), NONE);
    }

    private static void count() {
        C.part("promise 28");
        PaperHour x = Checks.townOf(TOWN);
        x.row(0, 0, 0);
        x.row(5, 0, 1);
        x.row(5, 1, 2);
        C.due("rows", x.count(0), 2);
        x.drop(0);
        C.due("rows left", x.count(0), 1);
        C.due("readers", x.count(1), 6);
        x.give(2);
        x.pause(1);
        x.feed(1);
        C.due("hour", x.count(2), 3);
        C.due("at", x.count(3), 5);
        C.due("read", x.count(4), 4);
        C.due("earned", x.count(5), 12);
        C.due("acts", x.count(6), 2);
        C.due("tape", x.count(7), 1);
        C.due("-1", x.count(-1), BAD);
        C.due("8", x.count(8), BAD);
    }

    private static void status() {
        C.part("promise 29");
        PaperHour x = Checks.townOf(TOWN);
        C.due("none", x.status(), 0);
        x.drop(0);
        C.due("null", x.status(), 1);
        x.drop(9);
        x.row(0, 3, 0);
        x.as(9, 9);
        x.fits(9, 0, 0, 1, 0, 0);
        x.lost(9, 0, 1, 0, 0, 0);
        C.due("bad ones are not such calls", x.status(), 1);
        x.give(0);
        x.best(0);
        x.ask(0, 0);
        C.due("nor are others", x.status(), 1);
        x.row(0, 0, 2);
        C.due("none by row", x.status(), 0);
        x.set(0, 2, 0);
        C.due("place", x.status(), 2);
        x.set(0, 1, 0);
        C.due("none by set", x.status(), 0);
        x.as(0, 4);
        C.due("kind", x.status(), 3);
        x.as(0, 1);
        C.due("none by as", x.status(), 0);
        x.row(1, 1, -1);
        C.due("size", x.status(), 4);
        x.copy(0, 0, 0, 1, 1);
        C.due("none by copy", x.status(), 0);
        x.row(1, 1, 1);
        x.copy(0, 0, 1, 0, 1);
        C.due("store", x.status(), 5);
        x.fits(0, 0, 0, 1, 0, 0);
        C.due("none by fits", x.status(), 0);
        x.fits(0, 0, 0, 3, 0, 0);
        C.due("place by fits", x.status(), 2);
        x.lost(0, 0, 1, 0, 0, 0);
        C.due("none by lost", x.status(), 0);
        x.lost(2, 0, 1, 0, 0, 0);
        C.due("null by lost", x.status(), 1);
        x.drop(1);
        C.due("none by drop", x.status(), 0);
        PaperHour noTown = new PaperHour();
        noTown.drop(0);
        noTown.lost(0, 0, 1, 0, 0, 0);
        C.due("no town is not such a call", noTown.status(), 1);
    }
}
