import java.util.ArrayList;
import java.util.List;

/**
 * What is refused, or found, changes nothing but status(); what is foretold or told changes nothing at all. Each such
 * call is made on one of two objects that were led alike; then both are asked all that can be asked, and taken apart.
 */
public final class RefusedTest {
    private static final int BAD = -1000001, STATE = -1000002, FULL = -1000003;
    private static final int NULL = -1000011, PLACE = -1000012, KIND = -1000013, SIZE = -1000014, STORE = -1000015;
    private static final int LOW = Integer.MIN_VALUE, HIGH = Integer.MAX_VALUE;

    private static final int NOWHERE = -1;

    private static final Checks C = new Checks();

    private interface Call {
        int of(PaperHour x);
    }

    private interface Lead {
        void to(PaperHour x);
    }

    private RefusedTest() {
    }

    public static void main(String[] args) {
        refusedOfANewOne();
        refusedInATown();
        refusedWhereNoMoreCanBe();
        refusedBehindAFault();
        foretold();
        C.end();
    }

    private static void refusedOfANewOne() {
        C.part("a new one");
        Lead none = x -> { };
        refuses(none, "give", BAD, x -> x.give(0));
        refuses(none, "pause", STATE, x -> x.pause(1));
        refuses(none, "value", BAD, x -> x.value(0, 1));
        refuses(none, "move", BAD, x -> x.move(0, 1));
        refuses(none, "undo", STATE, PaperHour::undo);
        refuses(none, "reader", BAD, x -> x.reader(0, 0));
        refuses(none, "would", BAD, x -> x.would(0, 0));
        refuses(none, "best", STATE, x -> x.best(-1));
        refuses(none, "soonest", STATE, x -> x.soonest(0, -1));
        refuses(none, "copies", STATE, x -> x.copies(1, -1));
        refuses(none, "fits", BAD, x -> x.fits(0, 0, 0, 1, 0, 0));
        refuses(none, "lost", STATE, x -> x.lost(0, 0, 1, 0, 0, 0));
        refuses(none, "drawn", STATE, x -> x.drawn(1, 1, 0));
        refuses(none, "image", STATE, x -> x.image(0));
        refuses(none, "restore", STATE, x -> x.restore(0));
        refuses(none, "kind", BAD, x -> x.kind(0));
        refuses(none, "as", BAD, x -> x.as(0, 0));
        refuses(none, "ask", BAD, x -> x.ask(0, 0));
        refuses(none, "count", BAD, x -> x.count(8));
        refuses(none, "set", NULL, x -> x.set(0, 0, 1));
        refuses(none, "copy", NULL, x -> x.copy(0, 0, 1, 0, 1));
        refuses(none, "drop", NULL, x -> x.drop(0));
        refuses(none, "row", SIZE, x -> x.row(0, 0, -1));
    }

    /** Acts of all sorts, one reader given it, an image of another state, rows of two lanes, a trace, half a text. */
    private static void lead(PaperHour x) {
        Checks.feedAll(x, "p4,3,20;f5,20,2;s3,18,1;a5,12,1;o9,7,0;h4,9,5;f0,25,3;");
        x.town();
        x.value(3, 8);
        x.image(1);
        x.give(2);
        x.pause(2);
        x.move(5, 6);
        x.value(0, 21);
        x.row(0, 0, 4);
        x.set(0, 0, 1);
        x.set(0, 1, 3);
        x.set(0, 2, 4);
        x.set(0, 3, 9);
        x.row(1, 1, 3);
        x.set(1, 0, 5);
        x.row(2, 0, 0);
        x.ask(1, 0);
        Checks.feedAll(x, "p1,1,");
    }

    private static void refusedInATown() {
        C.part("in a town");
        refusedRows();
        refusedActs();
        refusedForetold();
        refusedAsked();
    }

    private static void refusedRows() {
        for (int number : new int[] {-1, 8, LOW, HIGH}) {
            refuses(RefusedTest::lead, "row of " + number, BAD, x -> x.row(number, 0, 1));
            refuses(RefusedTest::lead, "set of " + number, BAD, x -> x.set(number, 0, 1));
            refuses(RefusedTest::lead, "copy from " + number, BAD, x -> x.copy(number, 0, 0, 0, 1));
            refuses(RefusedTest::lead, "copy to " + number, BAD, x -> x.copy(0, 0, number, 0, 1));
            refuses(RefusedTest::lead, "drop of " + number, BAD, x -> x.drop(number));
            refuses(RefusedTest::lead, "fits of " + number, BAD, x -> x.fits(0, number, 0, 1, 1, 0));
            refuses(RefusedTest::lead, "lost of " + number, BAD, x -> x.lost(number, 0, 1, 0, 1, 0));
        }
        refuses(RefusedTest::lead, "lane -1", BAD, x -> x.row(0, -1, 2));
        refuses(RefusedTest::lead, "lane 3", BAD, x -> x.row(0, 3, 2));
        refuses(RefusedTest::lead, "41 items", BAD, x -> x.row(0, 1, 41));
        refuses(RefusedTest::lead, "-1 items", SIZE, x -> x.row(0, 1, -1));
        refuses(RefusedTest::lead, "-1 items of a missing one", SIZE, x -> x.row(7, 1, -1));
        refuses(RefusedTest::lead, "set of a missing one", NULL, x -> x.set(3, 0, 1));
        refuses(RefusedTest::lead, "set of place -1", PLACE, x -> x.set(0, -1, 1));
        refuses(RefusedTest::lead, "set of place 4", PLACE, x -> x.set(0, 4, 1));
        refuses(RefusedTest::lead, "set of an empty one", PLACE, x -> x.set(2, 0, 1));
        refuses(RefusedTest::lead, "copy from a missing one", NULL, x -> x.copy(3, 0, 0, 0, 1));
        refuses(RefusedTest::lead, "copy to a missing one", NULL, x -> x.copy(0, 0, 3, 0, 1));
        refuses(RefusedTest::lead, "copy of two lanes", STORE, x -> x.copy(1, 0, 0, 0, 1));
        refuses(RefusedTest::lead, "copy beyond an end", PLACE, x -> x.copy(0, 0, 0, 1, 4));
        refuses(RefusedTest::lead, "copy from beyond an end", PLACE, x -> x.copy(0, 2, 0, 0, 3));
        refuses(RefusedTest::lead, "copy of fewer than none", PLACE, x -> x.copy(0, 2, 0, 1, -1));
        refuses(RefusedTest::lead, "drop of a missing one", NULL, x -> x.drop(3));
    }

    private static void refusedActs() {
        refuses(RefusedTest::lead, "feed -1", BAD, x -> x.feed(-1));
        refuses(RefusedTest::lead, "feed 256", BAD, x -> x.feed(256));
        for (int reader : new int[] {-1, 6, LOW, HIGH}) {
            refuses(RefusedTest::lead, "give " + reader, BAD, x -> x.give(reader));
            refuses(RefusedTest::lead, "value of " + reader, BAD, x -> x.value(reader, 1));
            refuses(RefusedTest::lead, "move of " + reader, BAD, x -> x.move(reader, 1));
            refuses(RefusedTest::lead, "reader " + reader, BAD, x -> x.reader(reader, 0));
            refuses(RefusedTest::lead, "would " + reader, BAD, x -> x.would(reader, 0));
            refuses(RefusedTest::lead, "fits " + reader, BAD, x -> x.fits(reader, 0, 0, 1, 1, 0));
            refuses(RefusedTest::lead, "kind " + reader, BAD, x -> x.kind(reader));
            refuses(RefusedTest::lead, "as " + reader, BAD, x -> x.as(reader, 0));
            refuses(RefusedTest::lead, "ask " + reader, BAD, x -> x.ask(reader, 0));
        }
        refuses(RefusedTest::lead, "give one who has READ it", STATE, x -> x.give(2));
        refuses(RefusedTest::lead, "pause 0", BAD, x -> x.pause(0));
        refuses(RefusedTest::lead, "pause 25", BAD, x -> x.pause(25));
        refuses(RefusedTest::lead, "value -1", BAD, x -> x.value(0, -1));
        refuses(RefusedTest::lead, "value 31", BAD, x -> x.value(0, 31));
        refuses(RefusedTest::lead, "move to -1", BAD, x -> x.move(0, -1));
        refuses(RefusedTest::lead, "move to 10", BAD, x -> x.move(0, 10));
        refuses(RefusedTest::lead, "reader's 5", BAD, x -> x.reader(0, 5));
    }

    private static void refusedForetold() {
        refuses(RefusedTest::lead, "would 2", BAD, x -> x.would(0, 2));
        refuses(RefusedTest::lead, "best -3", BAD, x -> x.best(-3));
        refuses(RefusedTest::lead, "best 6", BAD, x -> x.best(6));
        refuses(RefusedTest::lead, "soonest 6", BAD, x -> x.soonest(1, 6));
        refuses(RefusedTest::lead, "soonest of 64", BAD, x -> x.soonest(64, -1));
        refuses(RefusedTest::lead, "copies of 0", BAD, x -> x.copies(0, -1));
        refuses(RefusedTest::lead, "copies of 4", BAD, x -> x.copies(4, -1));
        refuses(RefusedTest::lead, "fits, n 0", BAD, x -> x.fits(0, 0, 0, 0, 1, 0));
        refuses(RefusedTest::lead, "fits, E 1000", BAD, x -> x.fits(0, 0, 0, 1, 1000, 0));
        refuses(RefusedTest::lead, "fits, what 3", BAD, x -> x.fits(0, 0, 0, 1, 1, 3));
        refuses(RefusedTest::lead, "fits of a missing one", NULL, x -> x.fits(0, 3, 0, 1, 1, 0));
        refuses(RefusedTest::lead, "fits beyond an end", PLACE, x -> x.fits(0, 0, 3, 2, 1, 0));
        refuses(RefusedTest::lead, "lost, n 7", BAD, x -> x.lost(0, 0, 7, 0, 1, 0));
        refuses(RefusedTest::lead, "lost, c 11", BAD, x -> x.lost(0, 0, 1, 11, 1, 0));
        refuses(RefusedTest::lead, "lost, E -1", BAD, x -> x.lost(0, 0, 1, 0, -1, 0));
        refuses(RefusedTest::lead, "lost, what 2", BAD, x -> x.lost(0, 0, 1, 0, 1, 2));
        refuses(RefusedTest::lead, "lost of a missing one", NULL, x -> x.lost(3, 0, 1, 0, 1, 0));
        refuses(RefusedTest::lead, "lost beyond an end", PLACE, x -> x.lost(0, 3, 2, 0, 1, 0));
        refuses(RefusedTest::lead, "drawn of 61", BAD, x -> x.drawn(61, 1, 0));
        refuses(RefusedTest::lead, "drawn by 0", BAD, x -> x.drawn(1, 0, 0));
        refuses(RefusedTest::lead, "drawn, what 2", BAD, x -> x.drawn(1, 1, 2));
        refuses(RefusedTest::lead, "image 2", BAD, x -> x.image(2));
        refuses(RefusedTest::lead, "restore 2", BAD, x -> x.restore(2));
        refuses(RefusedTest::lead, "restore of none", STATE, x -> x.restore(0));
    }

    private static void refusedAsked() {
        refuses(RefusedTest::lead, "as 6", BAD, x -> x.as(0, 6));
        refuses(RefusedTest::lead, "as -1", BAD, x -> x.as(0, -1));
        refuses(RefusedTest::lead, "as another", KIND, x -> x.as(0, 2));
        refuses(RefusedTest::lead, "ask 2", BAD, x -> x.ask(0, 2));
        refuses(RefusedTest::lead, "ask -1", BAD, x -> x.ask(0, -1));
        refuses(RefusedTest::lead, "count 8", BAD, x -> x.count(8));
    }

    private static void refusedWhereNoMoreCanBe() {
        C.part("where no more can be");
        Lead at999 = x -> {
            lead(x);
            while (x.count(2) + 24 <= 999) {
                x.pause(24);
            }
            x.pause(999 - x.count(2));
        };
        refuses(at999, "pause", FULL, x -> x.pause(1));
        refuses(at999, "pause 25", BAD, x -> x.pause(25));
        refuses(at999, "give", STATE, x -> x.give(0));
        Lead fullTape = x -> {
            lead(x);
            while (x.count(7) < 100) {
                x.feed(' ');
            }
        };
        refuses(fullTape, "feed", FULL, x -> x.feed('1'));
        refuses(fullTape, "feed 256", BAD, x -> x.feed(256));
        Lead noAct = x -> {
            lead(x);
            x.image(0);
            x.restore(1);
        };
        refuses(noAct, "undo", STATE, PaperHour::undo);
        Lead fullRing = x -> {
            lead(x);
            for (int n = 0; n < 24; n++) {
                x.value(1, n);
            }
        };
        refuses(fullRing, "value 31", BAD, x -> x.value(1, 31));
        refuses(fullRing, "give one who has READ it", STATE, x -> x.give(2));
    }

    /** A fault changes the tape and what fault() tells: led alike is one that has had another text with that fault. */
    private static void refusedBehindAFault() {
        C.part("a fault");
        String[] texts = {"x", "p10,", "p9,0,0;o1,30,9;o1,31", "p9,9,9;h9,9,9;h9,9,9;s", "p5,5,60;f1,1,1;;"};
        for (String text : texts) {
            PaperHour x = new PaperHour();
            PaperHour twin = new PaperHour();
            lead(x);
            lead(twin);
            C.due("half a text", x.town(), -1000105);
            C.due("half a text", twin.town(), -1000105);
            Checks.feedAll(x, text);
            C.due("a fault in " + text, x.town() <= -1000100 ? 1 : 0, 1);
            int fault = x.fault();
            Checks.feedAll(twin, fault == 2 ? "p99" : "p");
            C.due("a fault as that of " + text, twin.town(), -1000101);
            C.due("its number", twin.fault(), fault);
            alike("town of " + text, x, twin);
        }
    }

    private static void foretold() {
        C.part("foretold, told");
        for (int reader = 0; reader < 6; reader++) {
            int r = reader;
            leaves("give? " + r, x -> x.reader(r, 4));
            leaves("comes " + r, x -> x.would(r, 0));
            leaves("brings " + r, x -> x.would(r, 1));
            leaves("kind " + r, x -> x.kind(r));
            leaves("sorts " + r, x -> x.fits(r, 0, 0, 3, 10, 0));
            leaves("stale " + r, x -> x.fits(r, 0, 0, 3, 10, 1));
            leaves("homes " + r, x -> x.fits(r, 0, 0, 3, 10, 2));
            leaves("as " + r, x -> x.as(r, 0));
        }
        for (int k = -2; k < 6; k++) {
            int which = k;
            leaves("best " + k, x -> x.best(which));
            leaves("soonest " + k, x -> x.soonest(59, which));
            leaves("copies " + k, x -> x.copies(3, which));
        }
        leaves("soonest of none", x -> x.soonest(0, -1));
        leaves("lost", x -> x.lost(0, 0, 3, 3, 10, 0));
        leaves("lost, no reader", x -> x.lost(0, 0, 4, 3, 10, 1));
        leaves("drawn", x -> x.drawn(60, 99, 0));
        leaves("drawn, who", x -> x.drawn(60, 99, 1));
        leaves("trace", x -> x.trace(0));
        leaves("trace -1", x -> x.trace(-1));
        leaves("status", PaperHour::status);
        leaves("fault", PaperHour::fault);
        leaves("none copied", x -> x.copy(0, 4, 0, 4, 0));
    }

    private static void refuses(Lead lead, String name, int due, Call call) {
        PaperHour x = new PaperHour();
        PaperHour twin = new PaperHour();
        lead.to(x);
        lead.to(twin);
        int status = x.status();
        C.due(name, call.of(x), due);
        boolean finding = due <= -1000011 && due >= -1000015;
        C.due(name + ", then status", x.status(), finding ? -1000010 - due : status);
        alike(name, x, twin);
    }

    private static void leaves(String name, Call call) {
        PaperHour x = new PaperHour();
        PaperHour twin = new PaperHour();
        lead(x);
        lead(twin);
        int first = call.of(x);
        C.due(name + ", again", call.of(x), first);
        alike(name, x, twin);
    }

    private static void alike(String name, PaperHour x, PaperHour twin) {
        List<Integer> ofX = allOf(x);
        List<Integer> ofTwin = allOf(twin);
        int differ = ofX.size() == ofTwin.size() ? NOWHERE : Math.min(ofX.size(), ofTwin.size());
        for (int i = 0; i < ofX.size() && differ == NOWHERE; i++) {
            differ = ofX.get(i).equals(ofTwin.get(i)) ? NOWHERE : i;
        }
        C.due(name + ": the first answer that differs behind it", differ, NOWHERE);
    }

    /** All that can be asked, but status(); then acts are undone, images restored, the tape read, the rows' items told. */
    private static List<Integer> allOf(PaperHour x) {
        List<Integer> all = new ArrayList<>();
        allOfTheTown(x, all);
        for (int i = 0; i < 7; i++) {
            all.add(x.trace(i));
        }
        all.add(x.fault());
        for (int undone = 0; undone >= 0; ) {
            undone = x.undo();
            all.add(undone);
            all.add(x.count(2));
            all.add(x.count(5));
            all.add(x.reader(1, 1));
        }
        allOfReaders(x, all);
        for (int k = 0; k < 2; k++) {
            all.add(x.restore(k));
            all.add(x.count(2));
            all.add(x.reader(3, 1));
            all.add(x.best(-1));
        }
        all.add(x.feed('1'));
        all.add(x.town());
        Checks.feedAll(x, Checks.POWERS);
        all.add(x.town());
        for (int i = 0; i < 4; i++) {
            all.add(Checks.itemOf(x, 0, i));
        }
        all.add(Checks.itemOf(x, 1, 0));
        for (int row = 0; row < 8; row++) {
            all.add(x.set(row, 0, 65535));
            all.add(x.drop(row));
        }
        return all;
    }

    private static void allOfTheTown(PaperHour x, List<Integer> all) {
        for (int what = 0; what < 8; what++) {
            all.add(x.count(what));
        }
        allOfReaders(x, all);
        for (int reader = 0; reader < 6; reader++) {
            all.add(x.would(reader, 1));
            all.add(x.kind(reader));
            all.add(x.copies(2, reader));
        }
        all.add(x.best(-1));
        all.add(x.copies(2, -1));
        all.add(x.soonest(1, -1));
        all.add(x.drawn(30, 5, 1));
    }

    private static void allOfReaders(PaperHour x, List<Integer> all) {
        for (int reader = 0; reader < 6; reader++) {
            for (int what = 0; what < 4; what++) {
                all.add(x.reader(reader, what));
            }
        }
    }
}
